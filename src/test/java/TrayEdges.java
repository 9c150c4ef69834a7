/** Promises 1 to 8: a new object, STATUS, the FRACTION, TRAYS. */
final class TrayEdges {
    private static final long MIN = Integer.MIN_VALUE;
    private static final long MAX = Integer.MAX_VALUE;

    private TrayEdges() {
    }

    static void run() {
        newObject();
        firstPace();
        firstHunger();
        trays();
        zeros();
        write();
        cut();
        read();
        pour();
        pourRefused();
        pourInOrder();
        pourAsTheyWere();
    }

    private static void newObject() {
        Story fresh = Story.fresh();
        Edge.says("No STRIPS, HARMS, FAMILIES, MARKS; PACE 10, HUNGER 1; TRAYS are MISSING; an empty tape; "
            + "the FRACTION 0 by 1; STATUS 0.");
        Edge.gives(fresh, 0, "status");
        Edge.gives(fresh, 0, "top");
        Edge.gives(fresh, 1, "bottom");
        for (int what = 0; what <= 2; what++) {
            Edge.gives(fresh, 0, "many", what);
        }
        Edge.refuses(fresh, 1, "strip", 0, 0);
        Edge.refuses(fresh, 1, "harm", 0, 0);
        Edge.refuses(fresh, 1, "family", 0, 0);
        Edge.refuses(fresh, 6, "back");
        Edge.gives(fresh, 1, "mark");
        Edge.gives(fresh, 0, "village", 0);
        Edge.refuses(fresh, 1, "village", 1);
        Edge.gives(fresh, 20, "feed", 0, 0, 0, 0, 0);
        for (int tray = 0; tray <= 3; tray++) {
            Edge.refuses(fresh, 2, "read", tray, 0);
            Edge.refuses(fresh, 2, "write", tray, 0, 1);
            Edge.refuses(fresh, 2, "pour", tray, 0, tray, 0, 0);
        }
        Edge.gives(fresh, -1, "fault", 0);
        Edge.gives(fresh, -1, "fault", 1);
        Edge.refuses(fresh, 6, "climbed");
        Edge.refuses(fresh, 6, "given", 0);
    }

    /** By PACE 9 the way of 18 would take 2, by PACE 11 that of 20 would take 1. */
    private static void firstPace() {
        Edge.says("(1 to 99; 10 at first), rounded down; 0 at least");
        Edge.gives(Story.of("strip a at 9 0 gives 50;family x at 0 0 need 0;"), 49, "net", 0, 1, 0);
        Edge.gives(Story.of("strip a at 10 0 gives 50;family x at 0 0 need 0;"), 48, "net", 0, 1, 0);
    }

    private static void firstHunger() {
        Edge.says("HUNGER (0 to 99; 1 at first)");
        Edge.tells(Story.of("family x at 0 0 need 60;"), -60, 1, "worth", 0, 0);
    }

    private static void trays() {
        Story rich = Story.richWithTape();
        Edge.says("TRAYS 0 to 3 are MISSING at first, or rows of 0 to 60 numbers of 8 bits (sort 0), 16 (1), "
            + "32 (2) or 64 (3).");
        for (int tray = 0; tray <= 3; tray++) {
            Edge.gives(rich, 1, "tray", tray, 0, 0);
            Edge.gives(rich, 1, "tray", tray, 3, 60);
        }
        long[] good = {1, 2, 30};
        Edge.refusesEach(rich, 1, "tray", good, 0, -1, 4, MIN, MAX);
        Edge.refusesEach(rich, 1, "tray", good, 1, -1, 4, MIN, MAX);
        Edge.refusesEach(rich, 1, "tray", good, 2, -1, 61, MIN, MAX);
        // A TRAY that was MISSING stays so, one that was there stays as it was.
        Edge.refuses(rich, 1, "tray", 3, 0, 61);
        Edge.refuses(rich, 1, "tray", 0, 4, 3);
    }

    private static void zeros() {
        Edge.says("A TRAY is a row of so many 0s (1).");
        for (int many : new int[] {0, 1, 59, 60}) {
            Story laid = Story.fresh().then("tray", 2, 1, 60).then("write", 2, 0, 7).then("write", 2, many - 1, 7)
                .then("tray", 2, 0, many);
            for (int place = 0; place < many; place += Math.max(1, many - 1)) {
                Edge.gives(laid, 0, "read", 2, place);
            }
            Edge.refuses(laid, 3, "read", 2, many);
            Edge.refuses(laid, 3, "write", 2, many, 1);
        }
        // What a longer row had behind the end does not come back.
        Story again = Story.fresh().then("tray", 0, 3, 3).then("write", 0, 2, 9).then("tray", 0, 3, 2)
            .then("tray", 0, 3, 3);
        Edge.gives(again, 0, "read", 0, 2);
    }

    private static void write() {
        Story rich = Story.richWithTape();
        Edge.says("A number comes to a place of a TRAY, cut to its sort (1, 2, 3).");
        Edge.gives(rich, 1, "write", 0, 0, 5);
        Edge.gives(rich, 1, "write", 0, 2, 5);
        Edge.gives(rich.then("tray", 3, 3, 60), 1, "write", 3, 59, 5);
        Edge.gives(rich.then("write", 0, 2, 5), 5, "read", 0, 2);
        Edge.gives(rich.then("write", 0, 2, 5), 2, "read", 0, 1);
        Edge.gives(rich.then("write", 0, 2, 5), 3, "read", 1, 0);
        Edge.refusesEach(rich, 1, "write", new long[] {0, 0, 5}, 0, -1, 4, MIN, MAX);
        Edge.refuses(rich, 2, "write", 3, 0, 5);
        Edge.refusesEach(rich, 3, "write", new long[] {0, 0, 5}, 1, -1, 3, MIN, MAX);
        // Two of them at once: the first counts.
        Edge.refuses(rich, 1, "write", 4, -1, 5);
        Edge.refuses(rich, 2, "write", 3, -1, 5);
        Edge.refuses(rich, 2, "write", 3, 60, 5);
        Edge.refuses(rich.then("tray", 3, 3, 0), 3, "write", 3, 0, 5);
    }

    /** The greatest number of each sort, one more, the least, one less, and all bits. */
    private static void cut() {
        Edge.says("cut to its sort");
        for (int sort = 0; sort <= 3; sort++) {
            int bits = 8 << sort;
            long most = Long.MAX_VALUE >> 64 - bits;
            long least = -most - 1;
            Story tray = Story.fresh().then("tray", 1, sort, 3).then("write", 1, 0, 1).then("write", 1, 2, 2);
            long[][] cuts = {{most, most}, {most + 1, least}, {least, least}, {least - 1, most}, {-1, -1}, {0, 0},
                {2 * most + 1, -1}, {2 * most + 2, 0}, {2 * most + 3, 1}};
            for (long[] pair : cuts) {
                Story written = tray.then("write", 1, 1, pair[0]);
                Edge.gives(written, pair[1], "read", 1, 1);
                Edge.gives(written, 1, "read", 1, 0);
                Edge.gives(written, 2, "read", 1, 2);
            }
        }
    }

    private static void read() {
        Story rich = Story.richWithTape();
        Edge.says("The number in a place of a TRAY; STATUS tells NONE from -1 (1, 2, 3).");
        Edge.gives(rich, 1, "read", 0, 0);
        Edge.gives(rich, 3, "read", 0, 2);
        Edge.gives(rich.then("write", 0, 1, -1), -1, "read", 0, 1);
        Edge.gives(rich.then("tray", 3, 3, 60).then("write", 3, 59, Long.MIN_VALUE), Long.MIN_VALUE, "read", 3, 59);
        Edge.refusesEach(rich, 1, "read", new long[] {0, 0}, 0, -1, 4, MIN, MAX);
        Edge.refuses(rich, 2, "read", 3, 0);
        Edge.refusesEach(rich, 3, "read", new long[] {0, 0}, 1, -1, 3, MIN, MAX);
        Edge.refuses(rich, 1, "read", -1, -1);
        Edge.refuses(rich, 2, "read", 3, -1);
        Edge.refuses(rich, 2, "read", 3, 60);
        Edge.refuses(rich.then("tray", 3, 3, 0), 3, "read", 3, 0);
    }

    /** TRAYS 0 (1, 2, 3) and 1 (3, 0, 0, 0, -7) of sort 0, 2 (0, 2, 0, 100000) of sort 2. */
    private static void pour() {
        Story rich = Story.richWithTape();
        Edge.says("So many numbers of a TRAY, from a place on, come to another one's (or its own) place on, as they "
            + "were");
        row(rich.then("pour", 0, 0, 1, 0, 3), 1, 1, 2, 3, 0, -7);
        row(rich.then("pour", 0, 0, 1, 2, 3), 1, 3, 0, 1, 2, 3);
        row(rich.then("pour", 1, 2, 0, 0, 3), 0, 0, 0, -7);
        row(rich.then("pour", 0, 2, 1, 4, 1), 1, 3, 0, 0, 0, 3);
        row(rich.then("pour", 0, 0, 1, 0, 0), 1, 3, 0, 0, 0, -7);
        Edge.gives(rich, 1, "pour", 0, 0, 1, 2, 3);
        Edge.gives(rich, 1, "pour", 1, 2, 0, 0, 3);
        Edge.gives(rich, 1, "pour", 0, 0, 0, 0, 3);
        Edge.gives(rich, 1, "pour", 0, 0, 1, 0, 0);
        // None at all may stand at the very end.
        Edge.gives(rich, 1, "pour", 0, 3, 1, 5, 0);
        Edge.gives(rich.then("tray", 3, 0, 0), 1, "pour", 3, 0, 0, 0, 0);
    }

    private static void row(Story story, int tray, long... want) {
        for (int place = 0; place < want.length; place++) {
            Edge.gives(story, want[place], "read", tray, place);
        }
        Edge.refuses(story, 3, "read", tray, want.length);
    }

    private static void pourRefused() {
        Story rich = Story.richWithTape();
        long[] good = {0, 1, 1, 2, 2};
        Edge.says("(1: below 0, too; 2; 8; 3; asked in this order)");
        Edge.refusesEach(rich, 1, "pour", good, 0, -1, 4, MIN, MAX);
        Edge.refusesEach(rich, 1, "pour", good, 1, -1, MIN);
        Edge.refusesEach(rich, 1, "pour", good, 2, -1, 4, MIN, MAX);
        Edge.refusesEach(rich, 1, "pour", good, 3, -1, MIN);
        Edge.refusesEach(rich, 1, "pour", good, 4, -1, MIN);
        Edge.refusesEach(rich, 2, "pour", good, 0, 3);
        Edge.refusesEach(rich, 2, "pour", good, 2, 3);
        Edge.refuses(rich, 2, "pour", 3, 0, 3, 0, 0);
        Edge.refusesEach(rich, 8, "pour", good, 0, 2);
        Edge.refusesEach(rich, 8, "pour", good, 2, 2);
        Edge.refuses(rich, 8, "pour", 0, 0, 2, 0, 0);
        // One more than there are from there on, in the one and in the other.
        Edge.refusesEach(rich, 3, "pour", good, 1, 2, 3, 4, MAX);
        Edge.refusesEach(rich, 3, "pour", good, 3, 4, 5, 6, MAX);
        Edge.refusesEach(rich, 3, "pour", good, 4, 3, 4, MAX);
        Edge.refuses(rich, 3, "pour", 1, 0, 0, 0, 4);
        Edge.refuses(rich, 3, "pour", 0, 4, 1, 0, 0);
        Edge.refuses(rich, 3, "pour", 0, 0, 1, 6, 0);
        Edge.refuses(rich, 3, "pour", 0, MAX, 1, MAX, MAX);
        Edge.refuses(rich.then("tray", 3, 0, 0), 3, "pour", 3, 0, 0, 0, 1);
    }

    private static void pourInOrder() {
        Story rich = Story.richWithTape();
        Edge.says("(1: below 0, too; 2; 8; 3; asked in this order)");
        Edge.refuses(rich, 1, "pour", 3, -1, 2, 99, 99);
        Edge.refuses(rich, 1, "pour", 3, 99, 2, -1, 99);
        Edge.refuses(rich, 1, "pour", 2, 99, 3, 99, -1);
        Edge.refuses(rich, 1, "pour", 3, 99, 4, 99, 99);
        Edge.refuses(rich, 2, "pour", 3, 99, 2, 99, 99);
        Edge.refuses(rich, 2, "pour", 2, 99, 3, 99, 99);
        Edge.refuses(rich, 8, "pour", 2, 99, 0, 99, 99);
        Edge.refuses(rich, 8, "pour", 0, 99, 2, 99, 99);
    }

    private static void pourAsTheyWere() {
        Story five = Story.fresh().then("tray", 0, 3, 5);
        for (int place = 0; place < 5; place++) {
            five = five.then("write", 0, place, 10 + place);
        }
        Edge.says("come to another one's (or its own) place on, as they were");
        row(five.then("pour", 0, 0, 0, 1, 4), 0, 10, 10, 11, 12, 13);
        row(five.then("pour", 0, 1, 0, 0, 4), 0, 11, 12, 13, 14, 14);
        row(five.then("pour", 0, 0, 0, 0, 5), 0, 10, 11, 12, 13, 14);
        row(five.then("pour", 0, 0, 0, 4, 1), 0, 10, 11, 12, 13, 10);
    }
}
