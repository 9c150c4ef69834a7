/** Promises 26 to 31: BEST, CLIMB, EDGE, CHANGE, BESIDE. */
final class BestEdges {
    private static final long MIN = Integer.MIN_VALUE;
    private static final long MAX = Integer.MAX_VALUE;

    private BestEdges() {
    }

    static void run() {
        best();
        bestOfTen();
        bestOfSeveral();
        bestOutOf();
        climb();
        climbGrows();
        climbOfSeveral();
        climbed();
        edge();
        edgeAtItsEnds();
        change();
        changeAtItsEnds();
        beside();
        barn();
        coin();
        cousin();
        allBeside();
    }

    /** STRIPS at one place, the later ones richer; a FAMILY that needs nothing lives there. */
    private static String richer(int count) {
        StringBuilder text = new StringBuilder();
        for (int i = 0; i < count; i++) {
            text.append("strip ").append((char) ('a' + i)).append(" at 0 0 gives ").append(10 + i).append(';');
        }
        return text + "family x at 0 0 need 0;family y at 0 0 need 0;";
    }

    private static void best() {
        Story rich = Story.richWithTape();
        Edge.says("BEST: the set; the FRACTION is its WORTH (1; 6: there are not so many).");
        Edge.gives(rich, 5, "best", 0, 2);
        Edge.gives(rich, 6, "best", 1, 2);
        // NET is 67, 0, 47, 0, SHORT 0, 20, 0, 20: 77 * 67 + 99 * 47 - 60 * 80 is 5012 of 256.
        Edge.tells(rich, 1253, 64, "best", 0, 2);
        Edge.refuses(rich, 6, "best", 0, 3);
        Edge.refuses(rich, 6, "best", 0, 6);
        Edge.refusesEach(rich, 1, "best", new long[] {0, 1}, 0, -1, 2, MIN, MAX);
        Edge.refusesEach(rich, 1, "best", new long[] {0, 1}, 1, 0, -1, 7, MIN, MAX);
        Edge.refuses(rich, 1, "best", 2, 6);
        Edge.refuses(Story.fresh(), 1, "best", 0, 1);
        Edge.refuses(Story.of("family x at 0 0 need 1;"), 6, "best", 0, 1);
        Edge.refuses(Story.of("family x at 0 0 need 1;"), 1, "best", 0, 7);
    }

    private static void bestOfTen() {
        Edge.says("BEST for a FAMILY of so many STRIPS (1 to 6)");
        Story ten = Story.of(richer(10));
        int[] worth = {19, 37, 54, 70, 85, 99};
        for (int size = 1; size <= 6; size++) {
            Edge.gives(ten, 1024 - (1 << 10 - size), "best", 0, size);
            Edge.tells(ten, worth[size - 1], 1, "best", 0, size);
        }
        Edge.refuses(ten, 1, "best", 0, 7);
        Edge.gives(Story.of(richer(6)), 63, "best", 0, 6);
        Edge.refuses(Story.of(richer(5)), 6, "best", 0, 6);
        Edge.gives(Story.of(richer(1)), 1, "best", 0, 1);
        Edge.refuses(Story.of(richer(1)), 6, "best", 0, 2);
    }

    private static void bestOfSeveral() {
        Edge.says("the one with the greatest WORTH; of several the least set.");
        Story alike = Story.of("strip a at 0 0 gives 5;strip b at 0 0 gives 9;strip c at 0 0 gives 9;strip d at 0 0 gives 9;"
            + "family x at 0 0 need 0;");
        Edge.gives(alike, 2, "best", 0, 1);
        Edge.gives(alike, 6, "best", 0, 2);
        Edge.gives(alike, 14, "best", 0, 3);
        Edge.gives(alike.then("hold", 1, 0), 2, "best", 0, 1);
        Edge.gives(alike.then("hold", 3, 0), 2, "best", 0, 1);
        // The only difference is HUNGER's.
        Story risky = Story.of("strip a at 0 0 gives 40;strip b at 1 0 gives 15;hail 0 to 0 takes 8 odds 8;"
            + "family x at 0 0 need 10;");
        Edge.gives(risky, 1, "best", 0, 1);
        Edge.gives(risky.then("let", 1, 2), 2, "best", 0, 1);
        Edge.gives(risky.then("let", 1, 0), 1, "best", 0, 1);
        // The least set is not always the one whose first STRIP comes first: 6 is less than 9.
        Story pairs = Story.of("strip a at 0 0 gives 9;strip b at 50 0 gives 20;strip c at 50 0 gives 20;strip d at 0 0 gives 9;"
            + "family x at 0 0 need 0;").then("let", 0, 1);
        Edge.gives(pairs, 9, "best", 0, 2);
        Edge.gives(Story.of("strip a at 0 0 gives 9;strip b at 0 0 gives 9;strip c at 0 0 gives 9;strip d at 0 0 gives 9;"
            + "family x at 0 0 need 0;").then("hold", 0, 0), 3, "best", 0, 2);
        Edge.gives(Story.of("strip a at 0 0 gives 8;strip b at 0 0 gives 9;strip c at 0 0 gives 9;strip d at 0 0 gives 10;"
            + "family x at 0 0 need 0;"), 10, "best", 0, 2);
    }

    private static void bestOutOf() {
        Edge.says("out of those that no other FAMILY holds");
        Story four = Story.of(richer(4));
        Edge.gives(four, 8, "best", 0, 1);
        Edge.gives(four.then("hold", 3, 0), 8, "best", 0, 1);
        Edge.gives(four.then("hold", 3, 1), 4, "best", 0, 1);
        Edge.gives(four.then("hold", 3, 1), 8, "best", 1, 1);
        Edge.gives(four.then("hold", 3, 1), 7, "best", 0, 3);
        Edge.refuses(four.then("hold", 3, 1), 6, "best", 0, 4);
        Edge.gives(four.then("hold", 3, 1), 15, "best", 1, 4);
        Story none = four.then("hold", 0, 1).then("hold", 1, 1).then("hold", 2, 1).then("hold", 3, 1);
        Edge.refuses(none, 6, "best", 0, 1);
        Edge.gives(none.then("hold", 0, -1), 1, "best", 0, 1);
        Edge.refuses(none.then("hold", 0, -1), 6, "best", 0, 2);
    }

    private static void climb() {
        Story rich = Story.richWithTape();
        Edge.says("CLIMB: the set that is reached (nothing is changed); the FRACTION is its WORTH (1).");
        Edge.refusesEach(rich, 1, "climb", new long[] {0}, 0, -1, 2, MIN, MAX);
        Edge.refuses(Story.fresh(), 1, "climb", 0);
        Edge.refuses(Story.of("strip a at 0 0 gives 1;"), 1, "climb", 0);
        // Who holds nothing has nothing to give; who finds nothing that is nobody's stays.
        Edge.gives(Story.of(richer(3)), 0, "climb", 0);
        Edge.tells(Story.of("strip a at 0 0 gives 9;family x at 0 0 need 7;"), -7, 1, "climb", 0);
        Story full = Story.of(richer(3)).then("hold", 0, 0).then("hold", 1, 1).then("hold", 2, 1);
        Edge.gives(full, 1, "climb", 0);
        Edge.gives(full.then("hold", 1, -1), 2, "climb", 0);
        Edge.gives(full.then("hold", 2, -1), 4, "climb", 0);
        Edge.tells(full.then("hold", 2, -1), 12, 1, "climb", 0);
        Edge.gives(full, 6, "climb", 1);
        Edge.gives(full.then("hold", 0, -1), 0, "climb", 0);
    }

    private static void climbGrows() {
        Edge.says("CLIMB: from what it HOLDS, as long as WORTH grows: of all sets with one STRIP given for one that nobody "
            + "holds the one with the greatest WORTH");
        Story ten = Story.of(richer(10));
        for (int s = 0; s < 5; s++) {
            ten = ten.then("hold", s, 0);
        }
        Edge.gives(ten, 1023 - 31, "climb", 0);
        Edge.tells(ten, 85, 1, "climb", 0);
        Edge.gives(ten.then("climb", 0), 5, "climbed");
        // At once to the richest, not by those between.
        Story three = Story.of(richer(3)).then("hold", 0, 0);
        Edge.gives(three, 4, "climb", 0);
        Edge.gives(three.then("climb", 0), 1, "climbed");
        // One more or less, and as much: only the first is growth.
        for (int gives = 29; gives <= 31; gives++) {
            Story pair = Story.of("strip a at 0 0 gives 30;strip b at 0 0 gives " + gives + ";family x at 0 0 need 0 holds a;");
            Edge.gives(pair, gives > 30 ? 2 : 1, "climb", 0);
            Edge.gives(pair.then("climb", 0), gives > 30 ? 1 : 0, "climbed");
            Story turned = Story.of("strip a at 0 0 gives " + gives + ";strip b at 0 0 gives 30;family x at 0 0 need 0 holds b;");
            Edge.gives(turned, gives > 30 ? 1 : 2, "climb", 0);
        }
    }

    private static void climbOfSeveral() {
        Edge.says("the one with the greatest WORTH (of several the least set).");
        String alike = "strip a at 0 0 gives 30;strip b at 0 0 gives 10;strip c at 0 0 gives 30;strip d at 0 0 gives 10;";
        Edge.gives(Story.of(alike + "family x at 0 0 need 0 holds b;"), 1, "climb", 0);
        Edge.gives(Story.of(alike + "family x at 0 0 need 0 holds d;"), 1, "climb", 0);
        Edge.gives(Story.of(alike + "family x at 0 0 need 0 holds b holds d;"), 5, "climb", 0);
        Edge.gives(Story.of(alike + "family x at 0 0 need 0 holds a holds d;"), 5, "climb", 0);
        Edge.gives(Story.of(alike + "family x at 0 0 need 0 holds b holds d;family y at 0 0 need 0 holds a;"), 6, "climb", 0);
        // Of two that could be given the later goes, and of two that could come the earlier comes.
        Story last = Story.of("strip a at 0 0 gives 10;strip b at 0 0 gives 30;strip c at 0 0 gives 10;strip d at 0 0 gives 20;"
            + "family x at 0 0 need 0 holds a holds c;family y at 0 0 need 0 holds d;");
        Edge.gives(last, 3, "climb", 0);
        Story earlier = Story.of("strip a at 0 0 gives 10;strip b at 0 0 gives 5;strip c at 0 0 gives 30;strip d at 0 0 gives 30;"
            + "family x at 0 0 need 0 holds a;");
        Edge.gives(earlier, 4, "climb", 0);
        Edge.gives(earlier.then("climb", 0), 1, "climbed");
    }

    private static void climbed() {
        Edge.says("How many STRIPS were exchanged by climb() latest with STATUS 0 (6: there was none).");
        Story three = Story.of(richer(3)).then("hold", 0, 0);
        Edge.refuses(Story.fresh(), 6, "climbed");
        Edge.refuses(three, 6, "climbed");
        Edge.refuses(three.then("climb", 2).then("climb", -1), 6, "climbed");
        Edge.gives(three.then("climb", 1), 0, "climbed");
        Edge.gives(three.then("climb", 0), 1, "climbed");
        Edge.gives(three.then("climb", 0).then("climb", 2), 1, "climbed");
        Edge.gives(three.then("climb", 0).then("climb", 1), 0, "climbed");
        Edge.gives(three.then("climb", 0).then("best", 0, 1), 1, "climbed");
    }

    /** WORTH of a is 20 less 5 for each HUNGER; b gives so much always. */
    private static Story risky(int safe) {
        return Story.of("strip a at 0 0 gives 40;strip b at 1 0 gives " + safe + ";hail 0 to 0 takes 8 odds 8;"
            + "family x at 0 0 need 10;family y at 0 0 need 0;");
    }

    private static void edge() {
        Story rich = Story.richWithTape();
        Edge.says("EDGE (1; 6: there are not so many STRIPS, or no such HUNGER).");
        Edge.refuses(rich, 6, "edge", 0, 2);
        Edge.refuses(rich, 6, "edge", 0, 3);
        Edge.refuses(rich, 6, "edge", 0, 6);
        Edge.refusesEach(rich, 1, "edge", new long[] {0, 1}, 0, -1, 2, MIN, MAX);
        Edge.refusesEach(rich, 1, "edge", new long[] {0, 1}, 1, 0, -1, 7, MIN, MAX);
        Edge.refuses(Story.fresh(), 1, "edge", 0, 1);
        Edge.gives(risky(15), 2, "edge", 0, 1);
        // Not so many, though with one more there would be.
        Edge.refuses(risky(15).then("hold", 0, 1), 6, "edge", 0, 2);
        Edge.refuses(risky(15).then("hold", 0, 1).then("hold", 1, 1), 6, "edge", 0, 1);
        Edge.refuses(risky(15).then("hold", 0, 1), 6, "edge", 0, 1);
    }

    private static void edgeAtItsEnds() {
        Edge.says("EDGE: the least HUNGER (1 to 99) with which BEST is another set than with HUNGER 0.");
        Edge.gives(risky(20), 1, "edge", 0, 1);
        Edge.gives(risky(16), 1, "edge", 0, 1);
        Edge.gives(risky(15), 2, "edge", 0, 1);
        Edge.gives(risky(11), 2, "edge", 0, 1);
        Edge.gives(risky(10), 3, "edge", 0, 1);
        // With HUNGER 0 the other one is BEST already, and stays so.
        Edge.refuses(risky(21), 6, "edge", 0, 1);
        // Who needs nothing is never HUNGRY.
        Edge.refuses(risky(15), 6, "edge", 1, 1);
        // HUNGER as it is does not count.
        Edge.gives(risky(15).then("let", 1, 99), 2, "edge", 0, 1);
        Edge.gives(risky(15).then("let", 1, 0), 2, "edge", 0, 1);
        // In sixteenths: 15 times GIVES less HUNGER, against 16 times GIVES. 98 apart, 99 apart, 97 apart.
        int[][] rows = {{94, 82, 99}, {93, 81, -1}, {95, 83, 98}};
        for (int[] row : rows) {
            Story story = Story.of("strip a at 0 0 gives " + row[0] + ";strip b at 1 0 gives " + row[1]
                + ";hail 0 to 0 takes 8 odds 1;family x at 0 0 need 1;");
            if (row[2] > 0) {
                Edge.gives(story, row[2], "edge", 0, 1);
            } else {
                Edge.refuses(story, 6, "edge", 0, 1);
            }
        }
        // The safe one has the lesser number: where both are alike it is BEST.
        Story first = Story.of("strip a at 1 0 gives 15;strip b at 0 0 gives 40;hail 0 to 0 takes 8 odds 8;family x at 0 0 need 10;");
        Edge.gives(first, 1, "edge", 0, 1);
        Story hundred = Story.of("strip a at 1 0 gives 81;strip b at 0 0 gives 93;hail 0 to 0 takes 8 odds 1;family x at 0 0 need 1;");
        Edge.gives(hundred, 99, "edge", 0, 1);
    }

    private static void change() {
        Story rich = Story.richWithTape();
        Edge.says("Whether BEST is another set with other odds of a HARM: 1 or 0 (1; 6: there are not so many STRIPS).");
        long[] good = {0, 2, 1, 8};
        Edge.gives(rich, 0, "change", good);
        Edge.refuses(rich, 6, "change", 0, 3, 1, 8);
        Edge.refuses(rich, 6, "change", 0, 6, 1, 8);
        Edge.refusesEach(rich, 1, "change", good, 0, -1, 2, MIN, MAX);
        Edge.refusesEach(rich, 1, "change", good, 1, 0, -1, 7, MIN, MAX);
        Edge.refusesEach(rich, 1, "change", good, 2, -1, 2, MIN, MAX);
        Edge.refusesEach(rich, 1, "change", good, 3, -1, 17, MIN, MAX);
        // Not so many STRIPS and a number that can't be.
        Edge.refuses(rich, 1, "change", 0, 3, 2, 8);
        Edge.refuses(rich, 1, "change", 0, 3, 1, 17);
        Edge.refuses(Story.fresh(), 1, "change", 0, 1, 0, 0);
        Edge.refuses(Story.of("strip a at 0 0 gives 1;family x at 0 0 need 1;"), 1, "change", 0, 1, 0, 0);
    }

    private static void changeAtItsEnds() {
        Edge.says("CHANGE: whether BEST of so many is another set, if a HARM had other odds.");
        // Both are alike by 8 sixteenths, and a has the lesser number.
        for (int odds = 0; odds <= 16; odds++) {
            Edge.gives(risky(15), odds >= 9 ? 1 : 0, "change", 0, 1, 0, odds);
            Edge.gives(risky(15).then("likely", 0, 9), odds >= 9 ? 0 : 1, "change", 0, 1, 0, odds);
        }
        // The odds that it has change nothing, whatever BEST is.
        Edge.gives(risky(21), 0, "change", 0, 1, 0, 8);
        Edge.gives(risky(21), 1, "change", 0, 1, 0, 0);
        // HUNGER as it is counts.
        Edge.gives(risky(15).then("let", 1, 0), 0, "change", 0, 1, 0, 10);
        Edge.gives(risky(15).then("let", 1, 0), 1, "change", 0, 1, 0, 11);
        Edge.gives(risky(15), 0, "change", 0, 2, 0, 16);
        Edge.refuses(risky(15), 6, "change", 0, 3, 0, 16);
    }

    private static void beside() {
        Story rich = Story.richWithTape();
        long[] good = {0, 20, 1, 1, 2, 3};
        Edge.says("The FRACTION is the ODDS of BESIDE: a BARN of so much (0 to 999; 0: none), a COUSIN (NONE: none), COIN for "
            + "a HARM (NONE: none; premium, cover 0 to 99) (1: the FAMILY itself as its COUSIN, too).");
        Edge.gives(rich, 1, "beside", good);
        long[][] ends = {{0, 0, 1, 1, 2, 3}, {0, 999, 1, 1, 2, 3}, {0, 20, -1, 1, 2, 3}, {0, 20, 1, -1, 2, 3},
            {0, 20, 1, 0, 2, 3}, {0, 20, 1, 1, 0, 3}, {0, 20, 1, 1, 99, 3}, {0, 20, 1, 1, 2, 0}, {0, 20, 1, 1, 2, 99},
            {1, 20, 0, 1, 2, 3}, {1, 0, -1, -1, 0, 0}};
        for (long[] end : ends) {
            Edge.gives(rich, 1, "beside", end);
        }
        Edge.refusesEach(rich, 1, "beside", good, 0, -1, 2, MIN, MAX);
        Edge.refusesEach(rich, 1, "beside", good, 1, -1, 1000, MIN, MAX);
        Edge.refusesEach(rich, 1, "beside", good, 2, 0, -2, 2, MIN, MAX);
        Edge.refusesEach(rich, 1, "beside", good, 3, -2, 2, MIN, MAX);
        Edge.refusesEach(rich, 1, "beside", good, 4, -1, 100, MIN, MAX);
        Edge.refusesEach(rich, 1, "beside", good, 5, -1, 100, MIN, MAX);
        Edge.refuses(rich, 1, "beside", 1, 0, 1, -1, 0, 0);
        // NONE is no FAMILY, though it is no COUSIN as well.
        Edge.refuses(rich, 1, "beside", -1, 0, -1, -1, 0, 0);
        Edge.refuses(Story.fresh(), 1, "beside", 0, 0, -1, -1, 0, 0);
    }

    /** NET is 30, or 0 in a quarter of the years; the COUSIN's is 15 always. */
    private static Story years(int need, int cousinNeed) {
        return Story.of("strip a at 0 0 gives 30;strip b at 5 0 gives 15;hail 0 to 0 takes 8 odds 4;blight takes 0 odds 8;"
            + "family x at 0 0 need " + need + " holds a;family y at 5 0 need " + cousinNeed + " holds b;");
    }

    private static void barn() {
        Edge.says("With a BARN, what is above NEED in the first year, at most so much, is laid in; mice take half of it "
            + "(rounded up), what stays is there in the second one.");
        // NEED, the BARN, and whether what stays of a good year is enough for a bad one.
        int[][] rows = {{1, 0, 0}, {1, 1, 0}, {1, 2, 1}, {1, 3, 1}, {2, 2, 0}, {2, 3, 0}, {2, 4, 1}, {3, 5, 0}, {3, 6, 1},
            {9, 17, 0}, {9, 18, 1}, {10, 19, 0}, {10, 20, 1}, {10, 999, 1}, {11, 999, 0}, {30, 999, 0}};
        for (int[] row : rows) {
            Edge.tells(years(row[0], 0), 1, row[2] == 1 ? 16 : 4, "beside", 0, row[1], -1, -1, 0, 0);
        }
        // One more than it ever has: hungry in all years; nothing that it needs: in none.
        Edge.tells(years(31, 0), 1, 1, "beside", 0, 999, -1, -1, 0, 0);
        Edge.tells(years(0, 0), 0, 1, "beside", 0, 0, -1, -1, 0, 0);
        // What is laid in in the second year is no matter: only the first one's counts.
        Edge.tells(years(10, 0).then("likely", 0, 16), 1, 1, "beside", 0, 999, -1, -1, 0, 0);
        Edge.tells(years(10, 0).then("likely", 0, 0), 0, 1, "beside", 0, 0, -1, -1, 0, 0);
        // Who holds nothing has nothing to lay in.
        Edge.tells(years(1, 0).then("hold", 0, -1), 1, 1, "beside", 0, 999, -1, -1, 0, 0);
    }

    private static void coin() {
        Edge.says("with COIN it gives a premium in both (NET is less by it, 0 at least), and has a cover more, if a told HARM "
            + "is in the LOT.");
        // NEED is 10. The premium in good years, and the cover in bad ones.
        long[][] rows = {{0, 9, 1, 4}, {0, 10, 0, 1}, {20, 9, 1, 4}, {20, 10, 0, 1}, {21, 9, 1, 1}, {21, 10, 3, 4},
            {30, 10, 3, 4}, {31, 10, 3, 4}, {99, 99, 3, 4}, {0, 0, 1, 4}, {0, 99, 0, 1}};
        for (long[] row : rows) {
            Edge.tells(years(10, 0), row[2], row[3], "beside", 0, 0, -1, 0, row[0], row[1]);
        }
        // A cover for another HARM, which comes in half of the years whether there is hail or not.
        Edge.tells(years(10, 0), 1, 8, "beside", 0, 0, -1, 1, 0, 10);
        Edge.tells(years(10, 0), 1, 4, "beside", 0, 0, -1, 1, 0, 9);
        // Without COIN there is no premium and no cover.
        Edge.tells(years(10, 0), 1, 4, "beside", 0, 0, -1, -1, 99, 99);
        Edge.tells(years(10, 0), 1, 4, "beside", 0, 0, -1, -1, 0, 0);
    }

    private static void cousin() {
        Edge.says("With a COUSIN: if it is SHORT then, another FAMILY gives it what that has above its own NEED in that LOT (by what "
            + "that HOLDS, nothing beside), at most what is SHORT.");
        for (int cousinNeed = 0; cousinNeed <= 16; cousinNeed++) {
            Edge.tells(years(10, cousinNeed), cousinNeed <= 5 ? 0 : 1, cousinNeed <= 5 ? 1 : 4, "beside", 0, 0, 1, -1, 0, 0);
        }
        Edge.tells(years(10, 99), 1, 4, "beside", 0, 0, 1, -1, 0, 0);
        Edge.tells(years(10, 5).then("hold", 1, -1), 1, 4, "beside", 0, 0, 1, -1, 0, 0);
        // In the same LOT: a COUSIN whom the hail strikes as well has nothing above.
        Story struck = years(10, 5).village("strip a at 0 0 gives 30;strip b at 0 0 gives 15;hail 0 to 0 takes 8 odds 4;"
            + "family x at 0 0 need 10 holds a;family y at 0 0 need 5 holds b;");
        Edge.tells(struck, 1, 4, "beside", 0, 0, 1, -1, 0, 0);
        // Without harm there is one LOT, and the gift comes in it.
        String two = "strip a at 0 0 gives 9;strip b at 0 0 gives 15;family x at 0 0 need ";
        for (int cousinNeed = 13; cousinNeed <= 16; cousinNeed++) {
            Story story = Story.of(two + "10 holds a;family y at 0 0 need " + cousinNeed + " holds b;");
            Edge.tells(story, cousinNeed <= 14 ? 0 : 1, 1, "beside", 0, 0, 1, -1, 0, 0);
            // Who is not SHORT does not give to a COUSIN who is.
            Story enough = Story.of(two + "9 holds a;family y at 0 0 need " + cousinNeed + " holds b;");
            Edge.tells(enough, 0, 1, "beside", 0, 0, 1, -1, 0, 0);
        }
        // The COUSIN pays no premium and gets no cover.
        Edge.tells(years(10, 5), 0, 1, "beside", 0, 0, 1, 0, 1, 0);
        Edge.tells(years(10, 6), 1, 4, "beside", 0, 0, 1, 0, 0, 0);
        Edge.tells(years(10, 6), 0, 1, "beside", 0, 0, 1, 0, 0, 1);
    }

    private static void allBeside() {
        Edge.says("The ODDS that it is HUNGRY in the second year.");
        // A good year ahead leaves 1 (of 2 or 3 laid in), the COUSIN gives 9: just enough.
        Edge.tells(years(10, 6), 1, 4, "beside", 0, 1, 1, -1, 0, 0);
        Edge.tells(years(10, 6), 1, 16, "beside", 0, 2, 1, -1, 0, 0);
        // The premium lessens what is laid in: 20 less 2, and 9 stay; less 1, and 9 stay; nothing, and 10 stay.
        Edge.tells(years(10, 0), 1, 4, "beside", 0, 999, -1, 0, 2, 0);
        Edge.tells(years(10, 0), 1, 4, "beside", 0, 999, -1, 0, 1, 0);
        Edge.tells(years(10, 0), 1, 16, "beside", 0, 999, -1, 0, 0, 0);
        // A cover in a good first year is laid in, too: 33 less 11, and 11 stay; with 32 only 10 would.
        Edge.tells(years(11, 0), 7, 64, "beside", 0, 999, -1, 1, 0, 3);
        Edge.tells(years(11, 0), 5, 32, "beside", 0, 999, -1, 1, 0, 2);
    }
}
