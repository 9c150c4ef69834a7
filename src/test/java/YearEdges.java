/** Promises 40 to 43: YEARS, LUCK, MARKS. */
final class YearEdges {
    private static final long MIN = Integer.MIN_VALUE;
    private static final long MAX = Integer.MAX_VALUE;

    private YearEdges() {
    }

    static void run() {
        starved();
        starvedRefused();
        lotsOfTheVillage();
        luck();
        luckOfDeals();
        luckOfSeeds();
        fewerYears();
        mark();
        back();
        keptByAMark();
        notKeptByAMark();
    }

    /** In rich(): of a x has 39 in LOT 0, 19 in 2, none in 1 and 3; it needs 20. Of b y always has 10 and more. */
    private static void starved() {
        Story rich = Story.richWithTape();
        Edge.says("In how many of so many YEARS in a TRAY a FAMILY is HUNGRY by what it HOLDS (1; 2; 3; 1: a LOT; in this order).");
        // TRAY 0 has 1, 2, 3.
        Edge.gives(rich, 1, "starved", 0, 0, 1);
        Edge.gives(rich, 2, "starved", 0, 0, 2);
        Edge.gives(rich, 3, "starved", 0, 0, 3);
        Edge.gives(rich, 0, "starved", 1, 0, 3);
        Edge.gives(rich.then("write", 0, 1, 0), 2, "starved", 0, 0, 3);
        Edge.gives(rich.then("hold", 0, -1).then("write", 0, 1, 0), 3, "starved", 0, 0, 3);
        // NET is NEED, and one less.
        String strip = "strip a at 0 0 gives 10;blight takes 4 odds 1;family x at 0 0 need ";
        for (int need = 4; need <= 6; need++) {
            Story story = Story.of(strip + need + " holds a;").then("tray", 1, 3, 60).then("write", 1, 59, 1);
            Edge.gives(story, need > 5 ? 1 : 0, "starved", 0, 1, 60);
            Edge.gives(story, 0, "starved", 0, 1, 59);
        }
        Story none = Story.of("family x at 0 0 need 1;").then("tray", 1, 0, 60);
        Edge.gives(none, 60, "starved", 0, 1, 60);
        Edge.gives(none, 1, "starved", 0, 1, 1);
    }

    private static void starvedRefused() {
        Story rich = Story.richWithTape();
        long[] good = {0, 0, 3};
        long[] luck = {0, 0, 3, 5, 10};
        Edge.says("YEARS as they were: LOTS in a TRAY (1 to 60).");
        Edge.refusesEach(rich, 1, "starved", good, 0, -1, 2, MIN, MAX);
        Edge.refusesEach(rich, 1, "luck", luck, 0, -1, 2, MIN, MAX);
        Edge.refusesEach(rich, 1, "starved", good, 1, -1, 4, MIN, MAX);
        Edge.refusesEach(rich, 1, "luck", luck, 1, -1, 4, MIN, MAX);
        Edge.refusesEach(rich, 1, "starved", good, 2, 0, -1, 61, MIN, MAX);
        Edge.refusesEach(rich, 1, "luck", luck, 2, 0, -1, 61, MIN, MAX);
        Edge.refusesEach(rich, 2, "starved", good, 1, 3);
        Edge.refusesEach(rich, 2, "luck", luck, 1, 3);
        Edge.refusesEach(rich, 3, "starved", good, 2, 4, 60);
        Edge.refusesEach(rich, 3, "luck", luck, 2, 4, 60);
        Edge.says("(1; 2; 3; 1: a LOT; in this order)");
        // The TRAY is MISSING, and a number that can't be.
        Edge.refuses(rich, 1, "starved", 2, 3, 3);
        Edge.refuses(rich, 1, "starved", 0, 3, 0);
        Edge.refuses(rich, 1, "starved", 0, 3, 61);
        Edge.refuses(rich, 1, "luck", 0, 3, 3, -1, 10);
        Edge.refuses(rich, 1, "luck", 0, 3, 3, 5, 0);
        Edge.refuses(rich, 2, "starved", 0, 3, 60);
        Edge.refuses(rich, 2, "luck", 0, 3, 60, 5, 10);
        // Too few, and a LOT that can't be: TRAY 1 has -7 in its last place, TRAY 2 100000.
        Edge.refuses(rich, 3, "starved", 0, 1, 6);
        Edge.refuses(rich, 3, "luck", 0, 1, 6, 5, 10);
        Edge.refuses(rich, 1, "starved", 0, 1, 5);
        Edge.refuses(rich, 1, "luck", 0, 1, 5, 5, 10);
        Edge.refuses(rich, 1, "starved", 0, 2, 4);
        Edge.refuses(rich, 1, "luck", 0, 2, 4, 5, 10);
        // What stands behind those YEARS is no matter.
        Edge.gives(rich, 1, "starved", 0, 1, 4);
        Edge.gives(rich, 0, "starved", 0, 2, 1);
        // A TRAY without numbers is there, but has too few.
        Edge.refuses(rich.then("tray", 3, 0, 0), 3, "starved", 0, 3, 1);
        Edge.refuses(rich.then("tray", 3, 0, 0), 1, "starved", 0, 3, 0);
        Edge.refuses(Story.fresh().then("tray", 0, 0, 1), 1, "starved", 0, 0, 1);
    }

    private static void lotsOfTheVillage() {
        Edge.says("A LOT is the set of HARMS that fall in a year");
        for (int harms = 0; harms <= 6; harms++) {
            Story story = Story.of("family x at 0 0 need 1;" + "blight takes 1 odds 1;".repeat(harms)).then("tray", 0, 3, 2);
            long lots = 1L << harms;
            for (long lot : new long[] {0, lots - 1}) {
                Edge.gives(story.then("write", 0, 1, lot), 2, "starved", 0, 0, 2);
                Edge.gives(story.then("write", 0, 1, lot), 0, "luck", 0, 0, 2, 1, 1);
            }
            for (long lot : new long[] {-1, lots, 1L << 32, (1L << 32) - 1, Long.MIN_VALUE, Long.MAX_VALUE}) {
                Edge.refuses(story.then("write", 0, 1, lot), 1, "starved", 0, 0, 2);
                Edge.refuses(story.then("write", 0, 1, lot), 1, "luck", 0, 0, 2, 1, 1);
                Edge.gives(story.then("write", 0, 1, lot), 1, "starved", 0, 0, 1);
                Edge.refuses(story.then("write", 0, 0, lot), 1, "starved", 0, 0, 1);
                Edge.refuses(story.then("write", 0, 0, lot), 1, "luck", 0, 0, 2, 1, 1);
            }
        }
    }

    private static void luck() {
        Story rich = Story.richWithTape();
        long[] good = {0, 0, 3, 5, 10};
        Edge.says("LUCK (1; 2; 3; 1: a LOT; in this order).");
        Edge.refusesEach(rich, 1, "luck", good, 3, -1, 10000, MIN, MAX);
        Edge.refusesEach(rich, 1, "luck", good, 4, 0, -1, 101, MIN, MAX);
        Edge.refuses(Story.fresh().then("tray", 0, 0, 1), 1, "luck", 0, 0, 1, 0, 1);
        // A FAMILY that is never HUNGRY can't be so in fewer; one that gets as many as ahead, neither.
        Edge.gives(rich, 0, "luck", 1, 0, 3, 0, 100);
        Edge.gives(rich.then("hold", 0, -1), 0, "luck", 0, 0, 3, 9999, 100);
    }

    /** Only c feeds the FAMILY that has it; a and b give 1 each. The YEARS have no harm. */
    private static Story three(String x, String y) {
        return Story.of("strip a at 0 0 gives 1;strip b at 0 0 gives 1;strip c at 0 0 gives 20;family x at 0 0 need 10" + x
            + ";family y at 0 0 need 10" + y + ";").then("tray", 0, 0, 2);
    }

    private static void luckOfDeals() {
        Edge.says("LUCK: so many deals (1 to 100) by a seed: in each all STRIPS that are somebody's are shuffled, and dealt as "
            + "above; in how many of them the FAMILY is HUNGRY in fewer of the YEARS than by what it HOLDS.");
        // By seed 0 the draws are 1966, 5795, 6084, 2656, 4236, 1031, 6039, 4841 ..; the rows acb, bca, cba, cba, bca, acb,
        // bac, bac ..: x, who gets the first, has c in the third and fourth.
        Story x = three(" holds a", " holds b holds c");
        Story y = three(" holds c", " holds a holds b");
        int[] forX = {0, 0, 1, 2, 2, 2, 2, 2};
        int[] forY = {1, 2, 2, 2, 3, 4, 5, 6};
        for (int deals = 1; deals <= 8; deals++) {
            Edge.gives(x, forX[deals - 1], "luck", 0, 0, 1, 0, deals);
            Edge.gives(y, forY[deals - 1], "luck", 1, 0, 1, 0, deals);
        }
        Edge.gives(x, 29, "luck", 0, 0, 1, 0, 99);
        Edge.gives(x, 30, "luck", 0, 0, 1, 0, 100);
        // Who has c already can't be luckier.
        Edge.gives(x, 0, "luck", 1, 0, 1, 0, 100);
        Edge.gives(y, 0, "luck", 0, 0, 1, 0, 100);
        Edge.says("A deal: the STRIPS as they stand by numbers; from the last place to the second: the one there and the one at the "
            + "place which the draw by how many places there are up to it tells (the rest) are exchanged. Draws go on from deal to "
            + "deal");
        // What is nobody's is not dealt: of b and c x gets c in the first, third and fourth deal.
        Story two = three(" holds b", " holds c");
        int[] forTwo = {1, 1, 2, 3, 4, 4};
        for (int deals = 1; deals <= 6; deals++) {
            Edge.gives(two, forTwo[deals - 1], "luck", 0, 0, 1, 0, deals);
        }
        // One alone is dealt as it is, and no draw is made.
        Edge.gives(three(" holds a", ""), 0, "luck", 0, 0, 1, 0, 100);
        Edge.gives(three("", ""), 0, "luck", 0, 0, 1, 0, 100);
    }

    private static void luckOfSeeds() {
        Edge.says("s, at first the seed (0 to 9,999), becomes what is left of s times 4,093 and 15,731 by 65,536, and the draw is "
            + "that by 8, rounded down.");
        // By seed 9999 the draws are 5896, 3732, 7666, 3544 ..; the rows cab, cab, bac, bac.
        Story x = three(" holds a", " holds b holds c");
        int[] want = {1, 2, 2, 2};
        for (int deals = 1; deals <= 4; deals++) {
            Edge.gives(x, want[deals - 1], "luck", 0, 0, 1, 9999, deals);
        }
        // The same call once more begins anew by its seed.
        Edge.gives(x.then("luck", 0, 0, 1, 9999, 3), 2, "luck", 0, 0, 1, 9999, 4);
        for (long seed : new long[] {0, 1, 7, 8, 4999, 9998, 9999}) {
            Edge.gives(x, firstIsC(seed), "luck", 0, 0, 1, seed, 1);
        }
    }

    /** The document's words once more, for three STRIPS and one deal. */
    private static int firstIsC(long seed) {
        long s = (seed * 4093 + 15731) % 65536;
        int third = (int) (s / 8 % 3);
        s = (s * 4093 + 15731) % 65536;
        int second = (int) (s / 8 % 2);
        char[] row = {'a', 'b', 'c'};
        row[2] = row[third];
        row[third] = 'c';
        char moved = row[1];
        row[1] = row[second];
        row[second] = moved;
        return row[0] == 'c' ? 1 : 0;
    }

    private static void fewerYears() {
        Edge.says("the FAMILY is HUNGRY in fewer of the YEARS than by what it HOLDS.");
        // x is HUNGRY by a in both, by b in the year of blight alone.
        Story one = Story.of("strip a at 0 0 gives 1;strip b at 0 0 gives 10;blight takes 8 odds 1;family x at 0 0 need 10 holds a;"
            + "family y at 0 0 need 0 holds b;").then("tray", 0, 0, 2).then("write", 0, 1, 1);
        Edge.gives(one, 1, "luck", 0, 0, 2, 0, 1);
        Edge.gives(one, 1, "luck", 0, 0, 1, 0, 1);
        // In years of blight alone it is as HUNGRY by the other one.
        Edge.gives(one.then("write", 0, 0, 1), 0, "luck", 0, 0, 2, 0, 100);
        // By b it would be HUNGRY in more, not fewer.
        Edge.gives(one.then("hold", 0, 1).then("hold", 1, 0), 0, "luck", 0, 0, 2, 0, 100);
    }

    private static void mark() {
        Edge.says("A MARK more: how many there are (4).");
        Edge.gives(Story.fresh(), 1, "mark");
        Edge.gives(Story.fresh().then("mark"), 2, "mark");
        Edge.gives(Story.fresh().then("mark").then("mark"), 3, "mark");
        Edge.refuses(Story.fresh().then("mark").then("mark").then("mark"), 4, "mark");
        // rich() has two.
        Story rich = Story.richWithTape();
        Edge.gives(rich, 3, "mark");
        Story three = rich.then("mark");
        Edge.refuses(three, 4, "mark");
        Edge.refuses(three.then("let", 0, 50).then("hold", 0, 1), 4, "mark");
        Edge.gives(three.then("mark").then("back"), 3, "mark");
        Edge.gives(three.then("let", 0, 50).then("mark"), 2, "back");
    }

    private static void back() {
        Edge.says("All is taken back to the latest MARK: how many there are left (6).");
        Edge.refuses(Story.fresh(), 6, "back");
        Edge.refuses(Story.fresh().then("mark").then("back"), 6, "back");
        Edge.gives(Story.fresh().then("mark"), 0, "back");
        Story rich = Story.richWithTape();
        Edge.gives(rich.then("mark"), 2, "back");
        Edge.gives(rich, 1, "back");
        Edge.gives(rich.then("back"), 0, "back");
        Edge.refuses(rich.then("back").then("back"), 6, "back");
        // The latest is gone then, and the one ahead of it comes next.
        Edge.gives(rich.then("back"), 0, "strip", 2, 4);
        Edge.gives(rich.then("back"), 9, "harm", 1, 2);
        Edge.refuses(rich.then("back").then("back"), 6, "strip", 2, 4);
        Edge.gives(rich.then("back").then("back"), 3, "harm", 1, 2);
        // By PACE 7 the way of 180 takes 25, by PACE 6 it takes 30; HUNGER is 2 and not 3.
        Edge.gives(rich, 90, "net", 0, 7, 0);
        Edge.gives(rich.then("back"), 95, "net", 0, 7, 0);
        Edge.tells(rich.then("back"), -40, 1, "worth", 0, 0);
        Edge.gives(Story.fresh().then("mark").village("strip a at 1 1 gives 1;").then("back"), 0, "many", 0);
    }

    private static void keptByAMark() {
        Edge.says("MARKS, at most 3: the VILLAGE, who holds what, PACE, HUNGER are kept as they are; all is taken back to the "
            + "latest MARK, which is gone then.");
        Story rich = Story.rich();
        Story marked = rich.then("mark");
        Story[] changed = {marked, marked.then("hold", 0, 1), marked.then("hold", 1, -1), marked.then("hold", 2, 0),
            marked.then("likely", 0, 16), marked.then("likely", 1, 0), marked.then("let", 0, 99), marked.then("let", 1, 0),
            marked.then("village", 0), marked.village("strip z at 9 9 gives 9;blight takes 1 odds 1;family z at 1 1 need 1 holds z;"),
            marked.village(Story.RICH_TEXT).then("let", 0, 1).then("round", 0, 7)};
        for (Story story : changed) {
            Edge.same(rich, story.then("back"), Portrait.LAND, Portrait.MARKS, Portrait.TRAYS, Portrait.CLIMBED, Portrait.GIVEN);
        }
        // What settle() did is taken back as well.
        Story couple = Story.of("strip a at 0 0 gives 20;strip b at 50 0 gives 20;family x at 0 0 need 0 holds b;"
            + "family y at 50 0 need 0 holds a;");
        Edge.same(couple, couple.then("mark").then("settle").then("back"), Portrait.LAND, Portrait.MARKS);
        Edge.gives(couple.then("mark").then("settle").then("back"), 1, "settle");
        // What is reckoned then goes by the old VILLAGE again.
        Story other = rich.then("mark").village("strip a at 99 99 gives 9;strip b at 98 0 gives 9;strip c at 0 98 gives 9;"
            + "family x at 1 1 need 1;family y at 2 2 need 2;").then("round", 0, 7).then("best", 0, 1).then("back");
        Edge.gives(other, 180, "round", 0, 7);
        Edge.gives(other, 194, "round", 1, 7);
        Edge.gives(other, 90, "net", 0, 7, 0);
        Edge.gives(other, 20, "left", 0, 2);
        Edge.gives(other, 45, "weight", 3);
    }

    private static void notKeptByAMark() {
        Edge.says("the VILLAGE, who holds what, PACE, HUNGER are kept as they are");
        Story rich = Story.richWithTape();
        String[] names = {"tray", "write", "pour", "feed", "climb", "give", "hungry", "best", "beside"};
        long[][] givens = {{3, 1, 9}, {0, 0, 77}, {0, 0, 1, 0, 3}, {1, 2, 3, 4, 5}, {1}, {1}, {1, 7}, {1, 1}, {1, 9, 0, 0, 9, 9}};
        for (int i = 0; i < names.length; i++) {
            Story changed = rich.then(names[i], givens[i]);
            Story back = rich.then("mark").then(names[i], givens[i]).then("back");
            Edge.same(changed, back, Portrait.FRACTION, Portrait.FAULT, Portrait.CLIMBED, Portrait.GIVEN, Portrait.TRAYS,
                Portrait.LAND, Portrait.MARKS, Portrait.TAPE);
        }
        // The FAULT told latest stays, too, and the tape stays empty.
        Story fault = Story.rich().then("mark").village("#").then("back");
        Edge.gives(fault, 1, "fault", 0);
        Edge.gives(fault, 0, "fault", 1);
        Edge.gives(fault, 20, "feed", 0, 0, 0, 0, 0);
    }
}
