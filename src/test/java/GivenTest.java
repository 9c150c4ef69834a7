/** Promises 36 to 43: GIVEN, NARROW, TOGETHER, YEARS, LUCK, MARKS. */
public final class GivenTest {
    public static void main(String[] args) {
        give();
        giveRefused();
        given();
        narrow();
        narrowByOdds();
        together();
        starved();
        luck();
        yearsRefused();
        mark();
        back();
        backKeeps();
        Check.end();
    }

    private static HailHill two(String harm) {
        return Check.hill("strip a at 0 0 gives 10;strip b at 1 0 gives 10;" + harm
            + "family x at 0 0 need 10;family y at 0 0 need 10;");
    }

    private static void ways(String what, HailHill hill, int... want) {
        for (int s = 0; s < want.length; s++) {
            Check.took(what + ", given(" + s + ")", hill, hill.given(s), want[s]);
        }
    }

    private static void give() {
        HailHill hill = two("");
        Check.took("give(0)", hill, hill.give(0));
        Check.fraction("give(0)", hill, 0, 1);
        ways("give(0)", hill, 0, 1);
        Check.refused("nothing is changed", hill, hill.strip(0, 4), 6);
        hill = two("hail 0 to 0 takes 8 odds 8;");
        Check.took("give(0) with hail", hill, hill.give(0));
        Check.fraction("give(0) with hail", hill, 1, 2);
        ways("give(0) with hail", hill, 0, 1);
        // In the worst LOT one is HUNGRY by any way, so the first of all is told.
        Check.took("give(1) with hail", hill, hill.give(1));
        Check.fraction("give(1) with hail", hill, 1, 1);
        ways("give(1) with hail", hill, 0, 0);
        hill.likely(0, 0);
        Check.took("give(1) with hail that never comes", hill, hill.give(1));
        Check.fraction("give(1) with hail that never comes", hill, 0, 1);
        ways("give(1) with hail that never comes", hill, 0, 1);
        hill.likely(0, 16);
        Check.took("give(0) with hail that always comes", hill, hill.give(0));
        Check.fraction("give(0) with hail that always comes", hill, 1, 1);
        ways("give(0) with hail that always comes", hill, 0, 0);
        hill = Check.hill("family x at 0 0 need 3;family y at 0 0 need 0;family z at 0 0 need 5;");
        Check.took("give(0) without STRIPS", hill, hill.give(0));
        Check.fraction("give(0) without STRIPS", hill, 2, 1);
        Check.took("give(1) without STRIPS", hill, hill.give(1));
        Check.fraction("give(1) without STRIPS", hill, 2, 1);
        // Only x, the last one, can live of the second STRIP; the first one is too far for all.
        hill = Check.hill("strip a at 99 99 gives 1;strip b at 9 0 gives 9;"
            + "family y at 90 0 need 9;family z at 60 60 need 9;family x at 9 0 need 9;");
        Check.took("give(0) to the third", hill, hill.give(0));
        Check.fraction("give(0) to the third", hill, 2, 1);
        ways("give(0) to the third", hill, 0, 2);
    }

    private static String strips(int count) {
        StringBuilder text = new StringBuilder();
        for (int i = 0; i < count; i++) {
            text.append("strip ").append((char) ('a' + i)).append(" at 0 0 gives 1;");
        }
        return text.toString();
    }

    private static String families(int count) {
        StringBuilder text = new StringBuilder();
        for (int i = 0; i < count; i++) {
            text.append("family ").append((char) ('a' + i)).append(" at 0 0 need ").append(i + 1).append(';');
        }
        return text.toString();
    }

    private static void giveRefused() {
        HailHill hill = Check.hill(strips(9) + families(1));
        Check.refused("give(0) of 9 STRIPS", hill, hill.give(0), 4);
        Check.refused("give(2) of 9 STRIPS", hill, hill.give(2), 1);
        Check.refused("give(-1)", hill, hill.give(-1), 1);
        hill = Check.hill(strips(1) + families(4));
        Check.refused("give(1) to 4 FAMILIES", hill, hill.give(1), 4);
        hill = Check.hill(strips(9));
        Check.refused("give(0) of 9 STRIPS to nobody", hill, hill.give(0), 4);
        hill = Check.hill(strips(8));
        Check.refused("give(0) to nobody", hill, hill.give(0), 6);
        Check.refused("give(2) to nobody", hill, hill.give(2), 1);
        hill = Check.hill(strips(8) + families(3));
        Check.took("give(1) of 8 STRIPS to 3", hill, hill.give(1));
        Check.fraction("give(1) of 8 STRIPS to 3", hill, 0, 1);
        // 1, 2 and 3 are needed: the first has what the others can spare.
        ways("give(1) of 8 STRIPS to 3", hill, 0, 0, 0, 1, 1, 2, 2, 2);
    }

    private static void given() {
        HailHill hill = two("");
        Check.refused("given(0) ahead of any", hill, hill.given(0), 6);
        Check.refused("given(-5) ahead of any", hill, hill.given(-5), 6);
        hill.give(3);
        Check.refused("given(0) behind a refused one", hill, hill.given(0), 6);
        hill.give(0);
        Check.refused("given(2)", hill, hill.given(2), 1);
        Check.refused("given(-1)", hill, hill.given(-1), 1);
        hill.give(2);
        hill.village(0);
        hill.give(0);
        Check.due("status of give() in an empty VILLAGE", hill.status(), 6);
        ways("in another VILLAGE", hill, 0, 1);
        Check.refused("given(2) in another VILLAGE", hill, hill.given(2), 1);
        Check.village(hill, families(1));
        hill.give(0);
        Check.refused("given(0) of none", hill, hill.given(0), 1);
    }

    private static void narrow(String what, int gives, int need, int want) {
        HailHill hill = Check.hill("strip a at 0 0 gives " + gives + ";family x at 0 0 need " + need + " holds a;");
        if (want == HailHill.NONE) {
            Check.refused(what, hill, hill.narrow(0, 16), 6);
        } else {
            Check.took(what, hill, hill.narrow(0, 16), want);
            Check.took(what + ", of 1", hill, hill.narrow(0, 1), want);
            Check.took(what + ", GIVES as it was", hill, hill.strip(0, 2), gives);
        }
    }

    private static void narrow() {
        narrow("40, 20, 10, 5", 40, 10, 3);
        narrow("15, 7, 3", 15, 4, 2);
        narrow("9 of 10", 9, 10, 0);
        narrow("never without NEED", 40, 0, -1);
        narrow("99, 49, 24, 12, 6, 3, 1, above 0", 99, 1, -1);
        narrow("99, 49, 24, 12, 6, 3, 1", 99, 2, 6);
    }

    private static void narrowByOdds() {
        HailHill hill = Check.hill("strip a at 0 0 gives 40;blight takes 4 odds 8;family x at 0 0 need 10 holds a;");
        Check.took("narrow(0, 8)", hill, hill.narrow(0, 8), 2);
        Check.took("narrow(0, 9)", hill, hill.narrow(0, 9), 3);
        Check.refused("narrow(0, 0)", hill, hill.narrow(0, 0), 1);
        Check.refused("narrow(0, 17)", hill, hill.narrow(0, 17), 1);
        Check.refused("narrow(1, 1)", hill, hill.narrow(1, 1), 1);
        Check.refused("narrow(-1, 1)", hill, hill.narrow(-1, 1), 1);
        // 15 gives 7 ahead of all halving; halved it is 7, of which 3 are left.
        hill = Check.hill("strip a at 0 0 gives 15;blight takes 4 odds 16;family x at 0 0 need 4 holds a;");
        Check.took("each halved ahead of its harm", hill, hill.narrow(0, 16), 1);
    }

    private static int togetherOf(String strips, String x, String y) {
        HailHill hill = Check.hill(strips + "family x at " + x + ";family y at " + y + ";");
        int held = hill.family(0, 3);
        int set = hill.together();
        Check.due("status of together()", hill.status(), 0);
        Check.due("nothing is changed", hill.family(0, 3), held);
        return set;
    }

    private static void together() {
        String apart = "strip a at 50 0 gives 20;strip b at 0 5 gives 20;strip c at 0 0 gives 20;";
        Check.due("by X, to the gain of x", togetherOf(apart, "0 0 need 0 holds a", "50 0 need 0 holds b holds c"), 0);
        Check.due("by X, to both's loss", togetherOf(apart, "50 0 need 0 holds a", "0 0 need 0 holds b holds c"), 3);
        Check.due("by X, with one that is nobody's", togetherOf(apart, "50 0 need 0 holds a", "0 0 need 0 holds c"), 3);
        String alike = "strip a at 0 0 gives 10;strip b at 0 0 gives 20;";
        Check.due("by number", togetherOf(alike, "0 0 need 0 holds b", "0 0 need 0 holds a"), 1);
        Check.due("as it is", togetherOf(alike, "0 0 need 0 holds a", "0 0 need 0 holds b"), 0);
        String above = "strip a at 0 5 gives 20;strip b at 0 0 gives 10;";
        Check.due("by Y", togetherOf(above, "0 0 need 0 holds a", "0 0 need 0 holds b"), 1);
        String beside = "strip a at 1 0 gives 20;strip b at 0 9 gives 10;";
        Check.due("by X ahead of Y", togetherOf(beside, "0 0 need 0 holds a", "0 0 need 0 holds b"), 1);
    }

    private static HailHill years() {
        HailHill hill = Check.hill("strip a at 0 0 gives 1;strip b at 0 0 gives 20;frost 9 takes 8 odds 1;"
            + "family x at 0 0 need 10 holds a;family y at 0 0 need 0 holds b;family z at 0 0 need 10;");
        hill.tray(2, 3, 4);
        hill.write(2, 2, 1);
        return hill;
    }

    private static void starved() {
        HailHill hill = years();
        hill.hold(0, 1);
        hill.hold(1, 0);
        Check.took("starved(0, 2, 4)", hill, hill.starved(0, 2, 4), 1);
        Check.took("starved(0, 2, 3)", hill, hill.starved(0, 2, 3), 1);
        Check.took("starved(0, 2, 2)", hill, hill.starved(0, 2, 2), 0);
        Check.took("starved(1, 2, 4)", hill, hill.starved(1, 2, 4), 0);
        Check.took("starved(2, 2, 4)", hill, hill.starved(2, 2, 4), 4);
    }

    private static void luck() {
        HailHill hill = years();
        // By seed 0 the two STRIPS are exchanged in the first, third and fourth deal.
        int[] want = {1, 1, 2, 3};
        for (int deals = 1; deals <= 4; deals++) {
            Check.took("luck() of " + deals, hill, hill.luck(0, 2, 2, 0, deals), want[deals - 1]);
        }
        Check.took("luck() of who is never HUNGRY", hill, hill.luck(1, 2, 4, 0, 100), 0);
        Check.took("luck() of who HOLDS none", hill, hill.luck(2, 2, 4, 0, 100), 0);
        Check.took("what it HOLDS then", hill, hill.family(0, 3), 1);
        // A year of frost is no luck for anyone.
        hill.write(2, 0, 1);
        Check.took("luck() in frost", hill, hill.luck(0, 2, 1, 0, 4), 0);
        Check.took("luck() in one year of two", hill, hill.luck(0, 2, 2, 0, 4), 3);
        Check.took("luck() of seed 9999", hill, hill.luck(0, 2, 2, 9999, 1), luckOf9999());
    }

    /** By the document's own words: s times 4,093 and 15,731; the draw decides if the two are exchanged. */
    private static int luckOf9999() {
        long s = (9999L * 4093 + 15731) % 65536;
        return s / 8 % 2 == 0 ? 1 : 0;
    }

    private static void yearsRefused() {
        HailHill hill = years();
        int[][] calls = {{3, 2, 1, 1}, {-1, 2, 1, 1}, {0, 4, 1, 1}, {0, -1, 1, 1}, {0, 2, 0, 1}, {0, 2, 61, 1},
            {0, 1, 0, 1}, {0, 1, 1, 2}, {0, 1, 60, 2}, {0, 2, 5, 3}, {0, 2, 60, 3}};
        for (int[] row : calls) {
            String call = "(" + row[0] + ", " + row[1] + ", " + row[2] + ")";
            Check.refused("starved" + call, hill, hill.starved(row[0], row[1], row[2]), row[3]);
            Check.refused("luck" + call, hill, hill.luck(row[0], row[1], row[2], 1, 1), row[3]);
        }
        long[] noLots = {2, -1, 1L << 32, Long.MIN_VALUE};
        for (long lot : noLots) {
            hill.write(2, 3, lot);
            Check.refused("starved() with LOT " + lot, hill, hill.starved(0, 2, 4), 1);
            Check.refused("luck() with LOT " + lot, hill, hill.luck(0, 2, 4, 1, 1), 1);
            Check.refused("too few ahead of no LOT", hill, hill.starved(0, 2, 5), 3);
            Check.took("starved() short of LOT " + lot, hill, hill.starved(0, 2, 3), 3);
        }
        Check.refused("luck() of seed -1", hill, hill.luck(0, 2, 1, -1, 1), 1);
        Check.refused("luck() of seed 10000", hill, hill.luck(0, 2, 1, 10000, 1), 1);
        Check.refused("luck() of 0 deals", hill, hill.luck(0, 2, 1, 1, 0), 1);
        Check.refused("luck() of 101 deals", hill, hill.luck(0, 2, 1, 1, 101), 1);
        Check.refused("luck() of no seed in a MISSING TRAY", hill, hill.luck(0, 0, 1, -1, 1), 1);
    }

    private static void mark() {
        HailHill hill = new HailHill();
        for (int i = 1; i <= 3; i++) {
            Check.took("mark() no. " + i, hill, hill.mark(), i);
        }
        Check.refused("mark() no. 4", hill, hill.mark(), 4);
        for (int i = 2; i >= 0; i--) {
            Check.took("back() to " + i, hill, hill.back(), i);
        }
        Check.refused("back() to none", hill, hill.back(), 6);
        Check.took("mark() once more", hill, hill.mark(), 1);
    }

    private static final String FIRST = "strip a at 10 0 gives 50;blight takes 1 odds 5;family x at 0 0 need 60 holds a;";

    private static void back() {
        HailHill hill = Check.hill(FIRST);
        hill.mark();
        hill.let(0, 1);
        hill.let(1, 9);
        hill.likely(0, 7);
        hill.hold(0, -1);
        hill.mark();
        Check.village(hill, "strip b at 1 1 gives 1;strip c at 1 1 gives 1;family y at 1 1 need 1 holds c;");
        hill.round(0, 3);
        hill.settle();
        Check.took("back() to the latest", hill, hill.back(), 1);
        Check.took("STRIPS", hill, hill.many(0), 1);
        Check.took("HARMS", hill, hill.many(1), 1);
        Check.took("odds", hill, hill.harm(0, 2), 7);
        Check.took("where it falls", hill, hill.harm(0, 3), 1);
        Check.refused("held by nobody", hill, hill.strip(0, 4), 6);
        Check.took("net() by PACE 1", hill, hill.net(0, 1, 0), 30);
        Check.took("round()", hill, hill.round(0, 1), 20);
        Check.took("back() to the first", hill, hill.back(), 0);
        Check.took("odds of the first", hill, hill.harm(0, 2), 5);
        Check.took("held as at first", hill, hill.strip(0, 4), 0);
        Check.took("net() by PACE 10", hill, hill.net(0, 1, 0), 48);
        hill.likely(0, 0);
        hill.worth(0, 1);
        Check.fraction("worth() by HUNGER 1", hill, 36, 1);
    }

    private static void backKeeps() {
        HailHill hill = Check.hill(FIRST);
        hill.mark();
        hill.tray(0, 0, 2);
        hill.write(0, 1, 5);
        hill.hungry(0, 0);
        hill.give(0);
        hill.hold(0, -1);
        hill.climb(0);
        Check.feed(hill, "#");
        hill.village(1);
        Check.feed(hill, "strip b at 1 1 gives 1;");
        Check.took("back()", hill, hill.back(), 0);
        Check.took("TRAYS stay", hill, hill.read(0, 1), 5);
        Check.took("what was given stays", hill, hill.given(0), 0);
        Check.took("climbed() stays", hill, hill.climbed(), 0);
        Check.due("the FAULT stays", hill.fault(0), 1);
        Check.took("the tape stays", hill, hill.village(23), 1);
        Check.fraction("the FRACTION stays", hill, -60, 1);
    }
}
