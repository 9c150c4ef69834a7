/** Promises 1 to 8: a new object, STATUS, the FRACTION, TRAYS. */
public final class TraysTest {
    public static void main(String[] args) {
        newObject();
        firstPaceAndHunger();
        callsWithoutStatus();
        fractionStays();
        tray();
        write();
        read();
        pour();
        pourRefused();
        pourOntoItself();
        Check.end();
    }

    private static void newObject() {
        HailHill hill = new HailHill();
        Check.due("NONE", HailHill.NONE, -1);
        Check.due("status() of a new one", hill.status(), 0);
        Check.fraction("a new one", hill, 0, 1);
        Check.due("fault(0) ahead of any", hill.fault(0), -1);
        Check.due("fault(1) ahead of any", hill.fault(1), -1);
        for (int what = 0; what <= 2; what++) {
            Check.took("many(" + what + ")", hill, hill.many(what), 0);
        }
        for (int tray = 0; tray <= 3; tray++) {
            Check.refused("read(" + tray + ", 0) of a new one", hill, hill.read(tray, 0), 2);
        }
        Check.refused("back() of a new one", hill, hill.back(), 6);
        Check.refused("village(1) of an empty tape", hill, hill.village(1), 1);
        Check.due("first feed()", hill.feed(0, 0, 0, 0, 0), 20);
        Check.took("weight(0) without HARMS", hill, hill.weight(0), 1);
        Check.took("together() without FAMILIES", hill, hill.together(), 0);
        Check.took("settle() without FAMILIES", hill, hill.settle(), 0);
    }

    private static void firstPaceAndHunger() {
        HailHill hill = Check.hill("strip a at 10 0 gives 50;family x at 0 0 need 60;");
        Check.took("net() by PACE 10", hill, hill.net(0, 1, 0), 48);
        Check.took("worth() by HUNGER 1", hill, hill.worth(0, 1));
        Check.fraction("worth() by HUNGER 1", hill, 36, 1);
    }

    private static void callsWithoutStatus() {
        HailHill hill = new HailHill();
        Check.refused("many(3)", hill, hill.many(3), 1);
        hill.top();
        hill.bottom();
        hill.fault(0);
        hill.fault(9);
        hill.feed(1, 2, 3, 4, 5);
        Check.due("status() behind calls that have none", hill.status(), 1);
        Check.due("status() asked again", hill.status(), 1);
        hill.many(0);
        hill.fault(7);
        Check.due("status() behind a call that was taken", hill.status(), 0);
    }

    private static void fractionStays() {
        HailHill hill = Check.hill("strip a at 0 0 gives 9;blight takes 8 odds 6;family x at 0 0 need 1;");
        hill.hungry(0, 1);
        Check.fraction("hungry()", hill, 3, 8);
        Check.refused("hungry() of no FAMILY", hill, hill.hungry(1, 1), 1);
        Check.refused("odds() of no number", hill, hill.odds(0, 1, -1), 1);
        Check.refused("best() of too many", hill, hill.best(0, 2), 6);
        hill.net(0, 1, 0);
        hill.narrow(0, 1);
        hill.swaps(0, 0);
        hill.edge(0, 1);
        hill.change(0, 1, 0, 0);
        Check.fraction("behind calls that tell none", hill, 3, 8);
        hill.likely(0, 0);
        hill.hungry(0, 1);
        Check.fraction("0 is 0 by 1", hill, 0, 1);
    }

    private static void tray() {
        HailHill hill = new HailHill();
        Check.refused("tray(-1, 0, 1)", hill, hill.tray(-1, 0, 1), 1);
        Check.refused("tray(4, 0, 1)", hill, hill.tray(4, 0, 1), 1);
        Check.refused("tray(0, -1, 1)", hill, hill.tray(0, -1, 1), 1);
        Check.refused("tray(0, 4, 1)", hill, hill.tray(0, 4, 1), 1);
        Check.refused("tray(0, 0, -1)", hill, hill.tray(0, 0, -1), 1);
        Check.refused("tray(0, 0, 61)", hill, hill.tray(0, 0, 61), 1);
        Check.refused("read() behind refused tray()", hill, hill.read(0, 0), 2);
        Check.took("tray(0, 0, 0)", hill, hill.tray(0, 0, 0));
        Check.refused("read() of an empty TRAY", hill, hill.read(0, 0), 3);
        Check.took("tray(3, 3, 60)", hill, hill.tray(3, 3, 60));
        for (int place = 0; place < 60; place++) {
            Check.took("read(3, " + place + ")", hill, hill.read(3, place), 0);
        }
        hill.write(3, 7, 77);
        Check.refused("tray(3, 3, 61)", hill, hill.tray(3, 3, 61), 1);
        Check.took("read() behind a refused tray()", hill, hill.read(3, 7), 77);
        Check.took("tray(3, 1, 8)", hill, hill.tray(3, 1, 8));
        Check.took("read() of a TRAY laid anew", hill, hill.read(3, 7), 0);
        Check.refused("read() behind its new end", hill, hill.read(3, 8), 3);
    }

    private static void write() {
        HailHill hill = new HailHill();
        long[][] cuts = {
            {0, 300, 44}, {0, 127, 127}, {0, 128, -128}, {0, 255, -1}, {0, -129, 127}, {0, 256, 0},
            {1, 32767, 32767}, {1, 32768, -32768}, {1, 65536, 0}, {1, -1, -1}, {1, 70000, 4464},
            {2, 2147483647L, 2147483647L}, {2, 2147483648L, -2147483648L}, {2, 4294967296L, 0},
            {3, Long.MAX_VALUE, Long.MAX_VALUE}, {3, Long.MIN_VALUE, Long.MIN_VALUE}, {3, -1, -1}};
        for (long[] cut : cuts) {
            hill.tray(1, (int) cut[0], 3);
            Check.took("write() of sort " + cut[0], hill, hill.write(1, 1, cut[1]));
            Check.took("read() of sort " + cut[0] + ", of " + cut[1], hill, hill.read(1, 1), cut[2]);
            Check.took("its neighbour ahead", hill, hill.read(1, 0), 0);
            Check.took("its neighbour behind", hill, hill.read(1, 2), 0);
        }
        Check.refused("write(-1, 0, 5)", hill, hill.write(-1, 0, 5), 1);
        Check.refused("write(4, 0, 5)", hill, hill.write(4, 0, 5), 1);
        Check.refused("write() into a MISSING one", hill, hill.write(0, 0, 5), 2);
        Check.refused("write() below, into a MISSING one", hill, hill.write(0, -1, 5), 2);
        Check.refused("write(1, -1, 5)", hill, hill.write(1, -1, 5), 3);
        Check.refused("write(1, 3, 5)", hill, hill.write(1, 3, 5), 3);
        Check.refused("write(1, max, 5)", hill, hill.write(1, Integer.MAX_VALUE, 5), 3);
    }

    private static void read() {
        HailHill hill = new HailHill();
        hill.tray(2, 3, 60);
        hill.write(2, 59, -1);
        Check.took("read() of -1", hill, hill.read(2, 59), -1);
        Check.refused("read(2, 60)", hill, hill.read(2, 60), 3);
        Check.refused("read(2, -1)", hill, hill.read(2, -1), 3);
        Check.refused("read(2, min)", hill, hill.read(2, Integer.MIN_VALUE), 3);
        Check.refused("read(-1, 0)", hill, hill.read(-1, 0), 1);
        Check.refused("read(4, 99)", hill, hill.read(4, 99), 1);
        Check.refused("read(1, 99)", hill, hill.read(1, 99), 2);
    }

    private static HailHill poured() {
        HailHill hill = new HailHill();
        hill.tray(0, 1, 5);
        hill.tray(1, 1, 4);
        hill.tray(2, 2, 5);
        for (int i = 0; i < 5; i++) {
            hill.write(0, i, 10 + i);
            hill.write(1, i, 20 + i);
            hill.write(2, i, 30 + i);
        }
        return hill;
    }

    private static void row(String what, HailHill hill, int tray, long... want) {
        for (int i = 0; i < want.length; i++) {
            Check.due(what + ", place " + i, hill.read(tray, i), want[i]);
        }
    }

    private static void pour() {
        HailHill hill = poured();
        Check.took("pour(0, 1, 1, 2, 2)", hill, hill.pour(0, 1, 1, 2, 2));
        row("where it came", hill, 1, 20, 21, 11, 12);
        row("whence it came", hill, 0, 10, 11, 12, 13, 14);
        Check.took("pour() of none", hill, hill.pour(0, 0, 1, 0, 0));
        Check.took("pour() of none, at both ends", hill, hill.pour(0, 5, 1, 4, 0));
        row("behind pour() of none", hill, 1, 20, 21, 11, 12);
        Check.took("pour() of all", hill, hill.pour(1, 0, 0, 1, 4));
        row("behind pour() of all", hill, 0, 10, 20, 21, 11, 12);
    }

    private static void pourRefused() {
        HailHill hill = poured();
        Check.refused("no such TRAY to pour from", hill, hill.pour(4, 0, 0, 0, 1), 1);
        Check.refused("no such TRAY to pour to", hill, hill.pour(0, 0, -1, 0, 1), 1);
        Check.refused("a place below 0", hill, hill.pour(0, -1, 1, 0, 1), 1);
        Check.refused("at below 0", hill, hill.pour(0, 0, 1, -1, 1), 1);
        Check.refused("many below 0", hill, hill.pour(0, 0, 1, 0, -1), 1);
        Check.refused("below 0, of a MISSING one", hill, hill.pour(3, -1, 1, 0, 1), 1);
        Check.refused("from a MISSING one", hill, hill.pour(3, 0, 0, 0, 1), 2);
        Check.refused("to a MISSING one", hill, hill.pour(0, 0, 3, 99, 1), 2);
        Check.refused("unlike sorts", hill, hill.pour(0, 0, 2, 0, 1), 8);
        Check.refused("unlike sorts, too many", hill, hill.pour(0, 99, 2, 0, 99), 8);
        Check.refused("too few where it comes from", hill, hill.pour(1, 2, 0, 0, 3), 3);
        Check.refused("too few where it goes", hill, hill.pour(0, 0, 1, 2, 3), 3);
        Check.refused("none from behind the end", hill, hill.pour(0, 6, 1, 0, 0), 3);
        int max = Integer.MAX_VALUE;
        Check.refused("far too many", hill, hill.pour(0, max, 1, max, max), 3);
        Check.refused("so many that a sum would turn", hill, hill.pour(0, 1, 1, 1, max), 3);
        row("behind refused calls", hill, 0, 10, 11, 12, 13, 14);
        row("behind refused calls", hill, 1, 20, 21, 22, 23);
    }

    private static void pourOntoItself() {
        HailHill hill = poured();
        Check.took("pour(0, 0, 0, 1, 4)", hill, hill.pour(0, 0, 0, 1, 4));
        row("onto itself, ahead", hill, 0, 10, 10, 11, 12, 13);
        hill = poured();
        Check.took("pour(0, 2, 0, 0, 3)", hill, hill.pour(0, 2, 0, 0, 3));
        row("onto itself, back", hill, 0, 12, 13, 14, 13, 14);
    }
}
