import java.util.Arrays;
import java.util.List;

/** Promise 2 and what stands ahead of all promises: STATUS, its order, and how long an object is used. */
final class StatusEdges {
    private StatusEdges() {
    }

    static void run() {
        latestCall();
        callsWithoutStatus();
        firstThatHolds();
        everyStatus();
        lastCall();
    }

    private static void latestCall() {
        Edge.says("STATUS of the latest call that has one.");
        Edge.gives(Story.fresh(), 0, "status");
        HailHill hill = Story.rich().make();
        int[] want = {1, 2, 3, 8, 7, 6, 0};
        for (int i = 0; i < want.length; i++) {
            call(hill, want[i]);
            Check.due("status() behind a call of STATUS " + want[i], hill.status(), want[i]);
            Check.due("status() asked once more", hill.status(), want[i]);
        }
    }

    private static void call(HailHill hill, int status) {
        switch (status) {
            case 1:
                hill.many(3);
                break;
            case 2:
                hill.read(3, 0);
                break;
            case 3:
                hill.read(0, 3);
                break;
            case 6:
                hill.strip(2, 4);
                break;
            case 7:
                hill.hold(0, 0);
                break;
            case 8:
                hill.pour(0, 0, 2, 0, 1);
                break;
            default:
                hill.many(0);
                break;
        }
    }

    private static void callsWithoutStatus() {
        Edge.says("status(), top(), bottom(), feed(), fault() have none.");
        for (int status : new int[] {0, 1, 2, 3, 6, 7, 8}) {
            HailHill hill = Story.rich().make();
            call(hill, status);
            hill.top();
            Check.due("STATUS " + status + " behind top()", hill.status(), status);
            hill.bottom();
            Check.due("STATUS " + status + " behind bottom()", hill.status(), status);
            hill.status();
            Check.due("STATUS " + status + " behind status()", hill.status(), status);
            for (int what = -1; what <= 2; what++) {
                hill.fault(what);
                Check.due("STATUS " + status + " behind fault(" + what + ")", hill.status(), status);
            }
            // Of these 40 calls some are taken and some are not.
            for (int i = 0; i < 40; i++) {
                hill.feed(i, i, i, i, i);
                Check.due("STATUS " + status + " behind feed()", hill.status(), status);
            }
        }
        HailHill hill = Story.rich().village("#").make();
        hill.fault(0);
        hill.feed(1, 1, 1, 1, 1);
        Check.due("STATUS 9 stays", hill.status(), 9);
        Story four = Story.rich().then("mark").then("mark");
        HailHill full = four.make();
        full.top();
        Check.due("STATUS 4 stays", full.status(), 4);
    }

    private static void firstThatHolds() {
        Edge.says("STATUS of a call is the first of these that holds: 1 a number that can't be; no such TRAY, STRIP, HARM, FAMILY; a "
            + "set with others. 2 the TRAY is MISSING. 3 a place that the TRAY has not, or too few numbers. 4 too many. 6 there is "
            + "none such. 7 it is so already. 8 TRAYS are of unlike sorts. 9 a FAULT. 0 else.");
        Story rich = Story.richWithTape();
        Edge.refuses(rich, 1, "read", 4, 99);
        Edge.refuses(rich, 2, "read", 3, 99);
        Edge.refuses(rich, 3, "read", 0, 99);
        Edge.refuses(rich, 1, "strip", 2, 9);
        Edge.refuses(rich, 1, "hold", 9, -1);
        Edge.refuses(rich, 1, "best", 9, 6);
        Edge.refuses(rich, 1, "edge", 0, 7);
        Edge.refuses(rich, 1, "change", 0, 6, 9, 1);
        Edge.refuses(rich, 1, "swap", 0, 1, 9, 9);
        Edge.refuses(rich, 1, "narrow", 0, 17);
        Edge.refuses(rich, 1, "luck", 0, 3, 9, 5, 101);
        // given() alone asks for 6 first, and pour() for 8 ahead of 3.
        Edge.refuses(Story.fresh(), 6, "given", -1);
        Edge.refuses(rich, 8, "pour", 0, 99, 2, 99, 99);
        // A village() of more than the tape has is 1, though what the tape has is no VILLAGE.
        Edge.refuses(Story.rich().fed("#"), 1, "village", 21);
        Edge.refuses(Story.rich().fed("#"), 9, "village", 20);
        // Sets with others: one STRIP, one HARM more than there are.
        Edge.refuses(rich, 1, "net", 0, 8, 0);
        Edge.refuses(rich, 1, "net", 0, 15, 0);
        Edge.refuses(rich, 1, "net", 0, 0, 4);
        Edge.refuses(rich, 1, "weight", 7);
    }

    private static void everyStatus() {
        Edge.says("With another STATUS than 0 a call gives NONE, or false, and changes nothing else (but village() with 9 the tape, "
            + "and what fault() tells).");
        List<Story> states = Arrays.asList(Story.fresh(), Story.rich(), Story.richWithTape(), Story.richWithTape().then("mark"));
        long[][] wild = {{-1, -1, -1, -1, -1, -1}, {99, 99, 99, 99, 99, 99}, {0, -5, 12345, -5, 12345, -5},
            {Integer.MIN_VALUE, Integer.MIN_VALUE, Integer.MIN_VALUE, Integer.MIN_VALUE, Integer.MIN_VALUE, Integer.MIN_VALUE},
            {Integer.MAX_VALUE, Integer.MAX_VALUE, Integer.MAX_VALUE, Integer.MAX_VALUE, Integer.MAX_VALUE, Integer.MAX_VALUE}};
        String[] names = {"tray", "write", "read", "pour", "many", "strip", "harm", "family", "hold", "let", "likely", "weight", "left",
            "round", "net", "odds", "hungry", "worth", "best", "climb", "edge", "change", "beside", "swaps", "swap", "ring", "give",
            "narrow", "starved", "luck", "village"};
        int[] counts = {3, 3, 2, 5, 1, 2, 2, 2, 2, 2, 2, 1, 2, 2, 3, 3, 2, 2, 2, 1, 2, 4, 6, 2, 4, 4, 1, 2, 3, 5, 1};
        for (Story state : states) {
            for (int i = 0; i < names.length; i++) {
                for (long[] row : wild) {
                    boolean mayBe = row[0] == 0 && counts[i] == 1;
                    if (!mayBe) {
                        Edge.refuses(state, statusOf(state, names[i], row), names[i], Arrays.copyOf(row, counts[i]));
                    }
                }
            }
        }
    }

    /** All these numbers can't be; only where TRAY 0 is named rightly, it may be MISSING or too short. */
    private static int statusOf(Story state, String name, long[] row) {
        boolean tray = row[0] == 0 && (name.equals("write") || name.equals("read"));
        if (!tray) {
            return 1;
        }
        HailHill hill = state.make();
        hill.read(0, 0);
        return hill.status() == 2 ? 2 : 3;
    }

    private static void lastCall() {
        Edge.says("An object is used for at most 512 calls after it has been made");
        HailHill hill = new HailHill();
        Check.feed(hill, Story.RICH_TEXT);
        int calls = (Story.RICH_TEXT.length() + 19) / 20;
        hill.village(Story.RICH_TEXT.length());
        calls++;
        while (calls < 510) {
            Check.due("call " + calls, hill.round(calls % 2, 7), calls % 2 == 0 ? 180 : 194);
            calls++;
        }
        Check.due("the call ahead of the last", hill.mark(), 1);
        Check.due("the 512th call", hill.back(), 0);
    }
}
