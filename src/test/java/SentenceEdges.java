/**
 * Sentences of the document that other readings could take another way: an example of each that only one
 * reading gives, worked by hand.
 */
final class SentenceEdges {
    private SentenceEdges() {
    }

    static void run() {
        grammar();
        home();
        numbersThatCantBe();
        leftOfAStrip();
        roundOfASet();
        netOfASet();
        worthOfASet();
        allSetsOfSoMany();
        climbTakesAgain();
        twoYears();
        coinIsAskedAlways();
        swapsByHand();
        ringByHand();
        bothKinds();
        givesAreHalved();
        togetherLess();
        dealtByNumbers();
        fallsTogether();
    }

    private static void grammar() {
        // GrammarTest reads this very line, and tries every TOKEN behind every beginning.
        Edge.says("VILLAGE: {PART}. PART: strip NAME at NUMBER NUMBER gives NUMBER [soil NUMBER] ; or hail NUMBER to NUMBER FALLS ; or "
            + "frost NUMBER FALLS ; or dry NUMBER FALLS ; or blight FALLS ; or family NAME at NUMBER NUMBER need NUMBER {holds NAME} ; "
            + "FALLS: takes NUMBER odds NUMBER.");
        String text = "strip a at 1 2 gives 3 soil 2;hail 1 to 2 takes 3 odds 4;frost 1 takes 2 odds 3;dry 1 takes 2 odds 3;"
            + "blight takes 1 odds 2;family x at 1 2 need 3 holds a;";
        Edge.gives(Story.fresh().fed(text), 1, "village", text.length());
        Edge.gives(Story.of(text), 4, "many", 1);
        Edge.gives(Story.of(text), 1, "many", 2);
        Edge.gives(Story.fresh(), 0, "village", 0);
    }

    private static void home() {
        Edge.says("A FAMILY has a home (X, Y), a NEED; it HOLDS the STRIPS told, all others are nobody's.");
        Story two = Story.of("strip a at 9 9 gives 9;strip b at 8 8 gives 8;strip c at 7 7 gives 7;"
            + "family x at 12 34 need 56 holds c holds a;family y at 99 0 need 0;");
        int[][] want = {{12, 34, 56, 5}, {99, 0, 0, 0}};
        for (int f = 0; f < 2; f++) {
            for (int what = 0; what <= 3; what++) {
                Edge.gives(two, want[f][what], "family", f, what);
            }
        }
        Edge.gives(two, 0, "strip", 0, 4);
        Edge.refuses(two, 6, "strip", 1, 4);
        // From 12 34 to 9 9 it is 28 STEPS, and home again.
        Edge.gives(two, 56, "round", 0, 1);
        Edge.gives(two, 198, "round", 1, 1);
    }

    private static void numbersThatCantBe() {
        Edge.says("4 a NUMBER that can't be.");
        String[] texts = {"strip a at 1 1 gives 0;", "strip a at 1 1 gives 1 soil 0;", "strip a at 1 1 gives 1 soil 4;",
            "hail 2 to 1 takes 1 odds 1;", "dry 0 takes 1 odds 1;", "dry 4 takes 1 odds 1;", "blight takes 9 odds 1;",
            "blight takes 8 odds 17;"};
        int[] places = {21, 28, 28, 10, 4, 4, 13, 20};
        for (int i = 0; i < texts.length; i++) {
            Story told = Story.rich().village(texts[i]).then("many", 0);
            Edge.gives(told, 4, "fault", 0);
            Edge.gives(told, places[i], "fault", 1);
        }
    }

    private static void leftOfAStrip() {
        Edge.says("LEFT of a STRIP in a LOT: GIVES times 8 less the eighths that all HARMS of the LOT that fall on it take together (8 at "
            + "most), by 8, rounded down.");
        // All three leave 1 eighth of 13: 1. One behind the other (7, 6, 4 eighths of what is left) they would leave 4.
        Story two = Story.of("strip a at 5 5 gives 13;strip b at 50 50 gives 13;hail 0 to 9 takes 1 odds 1;frost 9 takes 2 odds 1;"
            + "blight takes 4 odds 1;family x at 5 5 need 1;");
        int[] first = {13, 11, 9, 8, 6, 4, 3, 1};
        int[] second = {13, 13, 13, 13, 6, 6, 6, 6};
        for (int lot = 0; lot < 8; lot++) {
            Edge.gives(two, first[lot], "left", 0, lot);
            Edge.gives(two, second[lot], "left", 1, lot);
            // What is left of each is rounded down by itself.
            Edge.gives(two.then("let", 0, 99), Math.max(0, first[lot] + second[lot] - 1), "net", 0, 3, lot);
        }
    }

    private static void roundOfASet() {
        Edge.says("ROUND of a set of STRIPS for a FAMILY: the fewest STEPS from its home to all of them, in any order, and home (0 "
            + "without any). NET of a set in a LOT:");
        // Home lies between them: to go to the nearest one each time (51, 49, 54, 40) would be longer.
        Story line = Story.of("strip a at 51 0 gives 9;strip b at 49 0 gives 9;strip c at 54 0 gives 9;strip d at 40 0 gives 9;"
            + "family x at 50 0 need 0;");
        int[] want = {0, 2, 2, 4, 8, 8, 10, 10, 20, 22, 20, 22, 28, 28, 28, 28};
        for (int set = 0; set < 16; set++) {
            Edge.gives(line, want[set], "round", 0, set);
        }
        // A square's corners: across it would be dearer than round it.
        Story square = Story.of("strip a at 0 0 gives 9;strip b at 10 10 gives 9;strip c at 0 10 gives 9;strip d at 10 0 gives 9;"
            + "family x at 0 0 need 0;");
        Edge.gives(square, 40, "round", 0, 15);
        Edge.gives(square, 40, "round", 0, 3);
        Edge.gives(square, 40, "round", 0, 12);
    }

    private static void netOfASet() {
        Edge.says("NET of a set in a LOT: LEFT of all of them, less ROUND by PACE (1 to 99; 10 at first), rounded down; 0 at least.");
        // ROUND by PACE is rounded down by itself: 38 by 10 takes 3.
        Story far = Story.of("strip a at 19 0 gives 20;family x at 0 0 need 0;");
        Edge.gives(far, 17, "net", 0, 1, 0);
        Edge.gives(far.then("let", 0, 37), 19, "net", 0, 1, 0);
        Edge.gives(far.then("let", 0, 38), 19, "net", 0, 1, 0);
        Edge.gives(far.then("let", 0, 39), 20, "net", 0, 1, 0);
        Edge.gives(far.then("let", 0, 1), 0, "net", 0, 1, 0);
    }

    private static void worthOfASet() {
        Edge.says("WORTH of a set for a FAMILY: the mean over all LOTS, by WEIGHTS, of NET less HUNGER (0 to 99; 1 at first) times SHORT.");
        // NET is 16 by 12 sixteenths and 0 by 4, when it is SHORT of 8.
        Story one = Story.of("strip a at 0 0 gives 16;blight takes 8 odds 4;family x at 0 0 need 8;");
        Edge.tells(one, 10, 1, "worth", 0, 1);
        Edge.tells(one.then("let", 1, 0), 12, 1, "worth", 0, 1);
        Edge.tells(one.then("let", 1, 3), 6, 1, "worth", 0, 1);
        Edge.tells(one.then("let", 1, 99), -186, 1, "worth", 0, 1);
        Edge.tells(one.then("likely", 0, 16), -8, 1, "worth", 0, 1);
        Edge.tells(one.then("likely", 0, 0), 16, 1, "worth", 0, 1);
        Edge.tells(one.then("likely", 0, 1), 29, 2, "worth", 0, 1);
    }

    private static void allSetsOfSoMany() {
        Edge.says("BEST for a FAMILY of so many STRIPS (1 to 6): of all sets of so many, out of those that no other FAMILY holds, the one "
            + "with the greatest WORTH; of several the least set.");
        // Each set of one, two, three out of six in turn is made the richest, and is found.
        for (int set = 1; set < 64; set++) {
            int size = Integer.bitCount(set);
            if (size <= 3) {
                StringBuilder text = new StringBuilder();
                for (int s = 0; s < 6; s++) {
                    text.append("strip ").append((char) ('a' + s)).append(" at 0 0 gives ").append((set >> s & 1) != 0 ? 9 : 8).append(';');
                }
                Edge.gives(Story.of(text + "family x at 0 0 need 0;"), set, "best", 0, size);
            }
        }
    }

    private static void climbTakesAgain() {
        Edge.says("CLIMB: from what it HOLDS, as long as WORTH grows: of all sets with one STRIP given for one that nobody holds the one "
            + "with the greatest WORTH (of several the least set).");
        // From abd by abe and ace to bce: b, given in the second step, is nobody's then, and is taken again in the third.
        Story again = Story.of("strip a at 9 29 gives 6;strip b at 5 3 gives 1;strip c at 6 18 gives 17;strip d at 4 22 gives 1;"
            + "strip e at 21 4 gives 20;family x at 8 9 need 51 holds a holds b holds d;").then("let", 0, 3).then("let", 1, 3);
        climbByHand(again, 0, 11, 22);
        Edge.gives(again, 22, "climb", 0);
        Edge.gives(again.then("climb", 0), 3, "climbed");
        // Two STRIPS were given for two others, but three times one was exchanged.
        Story three = Story.of("strip a at 10 17 gives 8;strip b at 7 1 gives 9;strip c at 29 19 gives 13;strip d at 14 0 gives 15;"
            + "strip e at 4 21 gives 27;family x at 18 4 need 7 holds a holds c;").then("let", 0, 2).then("let", 1, 2);
        climbByHand(three, 0, 5, 10);
        Edge.gives(three, 10, "climb", 0);
        Edge.gives(three.then("climb", 0), 3, "climbed");
    }

    /** The way up step by step, asked by worth() alone. */
    private static void climbByHand(Story story, int family, int from, int to) {
        HailHill hill = story.make();
        int set = from;
        int next = bestExchange(hill, family, set);
        for (int i = 0; i < 20 && next != set; i++) {
            set = next;
            next = bestExchange(hill, family, set);
        }
        Check.due("reached by hand", set, to);
    }

    private static int bestExchange(HailHill hill, int family, int set) {
        int found = set;
        for (int other = 0; other < 1 << hill.many(0); other++) {
            boolean one = Integer.bitCount(other & ~set) == 1 && Integer.bitCount(set & ~other) == 1;
            if (one && worth(hill, family, other) > worth(hill, family, found)) {
                found = other;
            }
        }
        return found;
    }

    private static double worth(HailHill hill, int family, int set) {
        hill.worth(family, set);
        return (double) hill.top() / hill.bottom();
    }

    private static void twoYears() {
        Edge.says("BESIDE, for what a FAMILY HOLDS, in the second of two years, each by its LOT: with COIN it gives a premium in both (NET is "
            + "less by it, 0 at least), and has a cover more, if a told HARM is in the LOT.");
        // A year is good by 3 of 4. The BARN keeps 16 of 32: HUNGRY just if both years are bad.
        Story forty = Story.of("strip a at 0 0 gives 40;strip b at 0 0 gives 20;blight takes 8 odds 4;family x at 0 0 need 8 holds a;");
        Edge.tells(forty, 1, 4, "beside", 0, 0, -1, -1, 0, 0);
        Edge.tells(forty, 1, 16, "beside", 0, 999, -1, -1, 0, 0);
        // By b the BARN keeps 6 of 12: not enough; by both 26.
        Story twenty = forty.then("hold", 0, -1).then("hold", 1, 0);
        Edge.tells(twenty, 1, 4, "beside", 0, 999, -1, -1, 0, 0);
        Edge.tells(twenty.then("hold", 0, 0), 1, 16, "beside", 0, 999, -1, -1, 0, 0);
        Edge.tells(forty.then("hold", 0, -1), 1, 1, "beside", 0, 999, -1, -1, 0, 0);
        // The premium is given in the first year too: 40 less 16 is 16 above NEED, of which 8 stay; less 17, 7.
        Edge.tells(forty, 1, 16, "beside", 0, 999, -1, 0, 16, 0);
        Edge.tells(forty, 1, 4, "beside", 0, 999, -1, 0, 17, 0);
        // The cover of a bad first year is laid in too: 23 are 15 above NEED, 7 stay, 24 are 16, and 8 stay. No year is HUNGRY by them.
        Edge.tells(forty, 0, 1, "beside", 0, 999, -1, 0, 0, 8);
        Edge.tells(forty, 1, 16, "beside", 0, 999, -1, 0, 0, 7);
        Story always = forty.then("likely", 0, 16);
        Edge.tells(always, 1, 1, "beside", 0, 999, -1, 0, 0, 7);
        Edge.tells(always, 0, 1, "beside", 0, 999, -1, 0, 0, 8);
        // Covered for one HARM alone: the second one's years are bare, but for what the first year's cover left.
        Story bare = Story.of("strip a at 0 0 gives 9;hail 0 to 0 takes 8 odds 8;frost 1 takes 8 odds 8;family x at 0 0 need 9 holds a;");
        Edge.tells(bare, 1, 4, "beside", 0, 0, -1, 0, 0, 9);
        Edge.tells(bare, 1, 4, "beside", 0, 999, -1, 0, 0, 26);
        Edge.tells(bare, 1, 8, "beside", 0, 999, -1, 0, 0, 27);
    }

    private static void coinIsAskedAlways() {
        Edge.says("COIN for a HARM (NONE: none; premium, cover 0 to 99)");
        Story rich = Story.richWithTape();
        Edge.gives(rich, 1, "beside", 0, 0, -1, -1, 99, 99);
        Edge.refusesEach(rich, 1, "beside", new long[] {0, 0, -1, -1, 9, 9}, 4, -1, 100);
        Edge.refusesEach(rich, 1, "beside", new long[] {0, 0, -1, -1, 9, 9}, 5, -1, 100);
        // Without a HARM nothing is given: it is HUNGRY but in the years without any, 77 of 256.
        Edge.tells(rich.then("beside", 0, 0, -1, -1, 0, 0), 179, 256, "beside", 0, 0, -1, -1, 99, 0);
    }

    private static void swapsByHand() {
        Edge.says("SWAPS of two FAMILIES: a STRIP of the one for one of the other, by which WORTH of what they hold grows for both. They stand "
            + "by the one's STRIP, then the other's. A RING of three:");
        // By PACE 1 x and y each hold two STRIPS near the other's home.
        HailHill hill = Story.of("strip a at 9 0 gives 20;strip b at 0 1 gives 20;strip c at 8 1 gives 20;strip d at 1 1 gives 20;"
            + "family x at 0 0 need 5 holds a holds c;family y at 9 0 need 5 holds b holds d;").then("let", 0, 1).make();
        int k = 0;
        for (int a = 0; a < 4; a++) {
            for (int b = 0; b < 4; b++) {
                boolean held = (5 >> a & 1) != 0 && (10 >> b & 1) != 0;
                if (held && worth(hill, 0, 5 ^ 1 << a ^ 1 << b) > worth(hill, 0, 5) && worth(hill, 1, 10 ^ 1 << b ^ 1 << a) > worth(hill, 1, 10)) {
                    Check.took("SWAP " + k + " gives", hill, hill.swap(0, 1, k, 0), a);
                    Check.took("SWAP " + k + " gets", hill, hill.swap(0, 1, k, 1), b);
                    k++;
                }
            }
        }
        Check.took("SWAPS", hill, hill.swaps(0, 1), k);
        Check.due("a for b alone", k, 1);
    }

    private static void ringByHand() {
        Edge.says("A RING of three: a STRIP of the first goes to the second, one of that to the third, one of that to the first, and WORTH "
            + "grows for all; the first by the first's STRIP, then the second's, then the third's.");
        // The first one's h goes with the second one's b, its e with g alone: e comes first all the same.
        Story story = Story.of("strip a at 13 12 gives 27;strip b at 21 7 gives 23 soil 1;strip c at 27 2 gives 28 soil 1;strip d at 27 21 gives 25;"
            + "strip e at 27 21 gives 18;strip f at 14 4 gives 27;strip g at 9 19 gives 25;strip h at 20 3 gives 27;"
            + "family x at 27 16 need 4 holds e holds h;family y at 23 10 need 22 holds b holds c holds g;"
            + "family z at 22 7 need 12 holds a holds d;").then("let", 0, 1);
        int[] want = firstRing(story.make(), 144, 70, 9);
        for (int what = 0; what <= 2; what++) {
            Edge.gives(story, want[what], "ring", 0, 1, 2, what);
        }
        Check.due("its first STRIP", want[0], 4);
        Check.due("its second STRIP", want[1], 6);
        Check.due("its third STRIP", want[2], 3);
    }

    private static int[] firstRing(HailHill hill, int one, int two, int three) {
        for (int way = 0; way < 512; way++) {
            int a = way / 64;
            int b = way / 8 % 8;
            int c = way % 8;
            boolean held = (one >> a & 1) != 0 && (two >> b & 1) != 0 && (three >> c & 1) != 0;
            if (held && grows(hill, 0, one, a, c) && grows(hill, 1, two, b, a) && grows(hill, 2, three, c, b)) {
                return new int[] {a, b, c};
            }
        }
        return new int[] {-1, -1, -1};
    }

    private static boolean grows(HailHill hill, int family, int held, int loses, int gets) {
        return worth(hill, family, held ^ 1 << loses ^ 1 << gets) > worth(hill, family, held);
    }

    private static void bothKinds() {
        Edge.says("GIVEN: of all ways to give each STRIP to one of the FAMILIES (at most 8 STRIPS, 3 FAMILIES, one at least) that with the "
            + "least mean of how many are HUNGRY (kind 0), the least number of HUNGRY ones in the worst LOT (kind 1; WEIGHTS above 0 alone); of "
            + "several the first by STRIP 0's FAMILY, then STRIP 1's, and so on.");
        // b is spared by hail. One who has both is never HUNGRY and the other always; with one each, x HUNGRY by hail alone.
        Story two = Story.of("strip a at 0 0 gives 9;strip b at 50 0 gives 30;hail 0 to 0 takes 8 odds 8;"
            + "family x at 0 0 need 9;family y at 50 0 need 9;");
        Edge.tells(two, 1, 2, "give", 0);
        Edge.gives(two.then("give", 0), 0, "given", 0);
        Edge.gives(two.then("give", 0), 1, "given", 1);
        // In the worst LOT one is HUNGRY in any way: so the first one, all to x, is taken.
        Edge.tells(two, 1, 1, "give", 1);
        Edge.gives(two.then("give", 1), 0, "given", 0);
        Edge.gives(two.then("give", 1), 0, "given", 1);
        // Without hail nobody need be HUNGRY, by both kinds.
        Story mild = two.then("likely", 0, 0);
        for (int kind = 0; kind <= 1; kind++) {
            Edge.tells(mild, 0, 1, "give", kind);
            Edge.gives(mild.then("give", kind), 0, "given", 0);
            Edge.gives(mild.then("give", kind), 1, "given", 1);
        }
    }

    private static void givesAreHalved() {
        Edge.says("NARROW: how often (0 to 6) all a FAMILY HOLDS must be halved (each STRIP's GIVES rounded down; NEED as it is), until it is "
            + "HUNGRY by ODDS of so many sixteenths (1 to 16) or more; the least.");
        // 3 are 1 by one halving, of which 7 eighths are nothing; half of what 7 eighths leave of 3 would be 1.
        Edge.gives(Story.of("strip a at 0 0 gives 3;blight takes 1 odds 16;family x at 0 0 need 1 holds a;"), 1, "narrow", 0, 16);
        // Of two STRIPS each one's half is rounded down: 3 and 3 are 1 and 1.
        Edge.gives(Story.of("strip a at 0 0 gives 3;strip b at 0 0 gives 3;family x at 0 0 need 3 holds a holds b;"), 1, "narrow", 0, 16);
        // The way is not halved: of 40 by a way of 9 there are 31, 11, 1.
        String far = "strip a at 45 0 gives 40;family x at 0 0 need ";
        int[][] rows = {{32, 0}, {31, 1}, {12, 1}, {11, 2}, {2, 2}, {1, 3}};
        for (int[] row : rows) {
            Edge.gives(Story.of(far + row[0] + " holds a;"), row[1], "narrow", 0, 16);
        }
    }

    private static void togetherLess() {
        Edge.says("TOGETHER: all STRIPS that are somebody's, by X, then Y, then number, are dealt to the FAMILIES in order, to each one behind "
            + "the other as many as it HOLDS: the set of FAMILIES whose WORTH is less then (nothing is changed).");
        // By X, then Y: e, c, a, b (d is nobody's). x, who holds b and c, gets e and c; y, who holds a, gets that; z, who holds e, gets b.
        Story row = Story.of("strip a at 2 0 gives 10;strip b at 2 0 gives 20;strip c at 1 9 gives 30;strip d at 1 1 gives 40;"
            + "strip e at 1 8 gives 15;family x at 0 0 need 0 holds b holds c;family y at 0 0 need 0 holds a;"
            + "family z at 0 0 need 0 holds e;").then("let", 0, 99);
        Edge.gives(row, 1, "together");
        // Each gets what it holds.
        Edge.gives(row.then("hold", 4, 0).then("hold", 1, 2), 0, "together");
        // x has e for c then, y c and a for a and b, z b for e.
        Edge.gives(row.then("hold", 1, 1), 1, "together");
        // x has e and c for b and c, y a for e, z b for a.
        Edge.gives(row.then("hold", 0, 2).then("hold", 4, 1), 3, "together");
    }

    private static void dealtByNumbers() {
        Edge.says("in each all STRIPS that are somebody's are shuffled, and dealt as above; in how many of them the FAMILY is HUNGRY in fewer "
            + "of the YEARS than by what it HOLDS. A deal: the STRIPS as they stand by numbers;");
        // By seed 0 the rows are acb, bca, cba, cba; of these STRIPS the last has the least X.
        Story story = Story.of("strip a at 9 0 gives 1;strip b at 5 0 gives 1;strip c at 0 0 gives 10;family x at 0 0 need 10 holds a;"
            + "family y at 0 0 need 0 holds b holds c;").then("let", 0, 99).then("tray", 0, 0, 1);
        int[] want = {0, 0, 1, 2};
        for (int deals = 1; deals <= 4; deals++) {
            Edge.gives(story, want[deals - 1], "luck", 0, 0, 1, 0, deals);
        }
    }

    private static void fallsTogether() {
        Edge.says("FALLS on STRIPS: hail a to b: with X of a to b (b not below a); frost y: with Y below y; dry s: of SOIL s (1 to 3); blight: on "
            + "all; it takes so many eighths (0 to 8), by odds of so many sixteenths (0 to 16).");
        Story four = Story.of("hail 3 to 5 takes 1 odds 2;frost 3 takes 3 odds 4;dry 3 takes 5 odds 6;blight takes 7 odds 8;"
            + "strip a at 3 3 gives 9 soil 3;strip b at 3 2 gives 9;strip c at 5 9 gives 9 soil 3;strip d at 6 2 gives 9 soil 2;");
        int[][] want = {{0, 1, 2, 7}, {1, 3, 4, 10}, {2, 5, 6, 5}, {3, 7, 8, 15}};
        for (int h = 0; h < 4; h++) {
            for (int what = 0; what <= 3; what++) {
                Edge.gives(four, want[h][what], "harm", h, what);
            }
        }
    }
}
