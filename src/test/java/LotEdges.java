/** Promises 19 to 25: WEIGHT, LEFT, ROUND, NET, ODDS, HUNGRY, WORTH. */
final class LotEdges {
    private static final long MIN = Integer.MIN_VALUE;
    private static final long MAX = Integer.MAX_VALUE;

    private LotEdges() {
    }

    static void run() {
        weight();
        weightOfSixHarms();
        left();
        eightAtMost();
        leftRoundedDown();
        round();
        roundWithoutAny();
        roundOfTen();
        net();
        netAtLeastZero();
        netRoundedDown();
        odds();
        hungry();
        shortAtLeastZero();
        worth();
        fractions();
    }

    private static void weight() {
        Story rich = Story.richWithTape();
        Edge.says("WEIGHT of a LOT (1).");
        long[] want = {77, 35, 99, 45};
        for (int lot = 0; lot <= 3; lot++) {
            Edge.gives(rich, want[lot], "weight", lot);
        }
        Edge.refusesEach(rich, 1, "weight", new long[] {0}, 0, -1, 4, MIN, MAX);
        Edge.gives(Story.fresh(), 1, "weight", 0);
        Edge.refusesEach(Story.fresh(), 1, "weight", new long[] {0}, 0, -1, 1);
    }

    private static void weightOfSixHarms() {
        Edge.says("A LOT is the set of HARMS that fall in a year (1 for HARM 0, 2 for 1 ..). Its WEIGHT: of each HARM its "
            + "odds, if it is one of them, else 16 less them, times one another.");
        StringBuilder six = new StringBuilder();
        for (int odds = 1; odds <= 6; odds++) {
            six.append("blight takes 1 odds ").append(odds).append(';');
        }
        Story told = Story.of(six.toString());
        Edge.gives(told, 15L * 14 * 13 * 12 * 11 * 10, "weight", 0);
        Edge.gives(told, 1L * 14 * 13 * 12 * 11 * 10, "weight", 1);
        Edge.gives(told, 15L * 14 * 13 * 12 * 11 * 6, "weight", 32);
        Edge.gives(told, 15L * 2 * 3 * 4 * 5 * 6, "weight", 62);
        Edge.gives(told, 720, "weight", 63);
        Edge.refuses(told, 1, "weight", 64);
        Edge.refuses(told, 1, "weight", -1);
        Story sure = told;
        for (int h = 0; h < 6; h++) {
            sure = sure.then("likely", h, 16);
        }
        Edge.gives(sure, 16777216, "weight", 63);
        Edge.gives(sure, 0, "weight", 31);
        Edge.gives(sure, 0, "weight", 0);
    }

    private static void left() {
        Story rich = Story.richWithTape();
        Edge.says("LEFT (1).");
        int[][] want = {{40, 0, 20, 0}, {30, 30, 15, 15}, {50, 0, 50, 0}};
        for (int s = 0; s <= 2; s++) {
            for (int lot = 0; lot <= 3; lot++) {
                Edge.gives(rich, want[s][lot], "left", s, lot);
            }
        }
        Edge.refusesEach(rich, 1, "left", new long[] {0, 0}, 0, -1, 3, MIN, MAX);
        Edge.refusesEach(rich, 1, "left", new long[] {0, 0}, 1, -1, 4, MIN, MAX);
        Edge.refuses(Story.fresh(), 1, "left", 0, 0);
        Story one = Story.of("strip a at 0 0 gives 9;");
        Edge.gives(one, 9, "left", 0, 0);
        Edge.refuses(one, 1, "left", 0, 1);
    }

    private static Story taken(int gives, int... takes) {
        StringBuilder text = new StringBuilder("strip a at 5 5 gives ").append(gives).append(';');
        for (int eighths : takes) {
            text.append("blight takes ").append(eighths).append(" odds 8;");
        }
        return Story.of(text.toString());
    }

    private static void eightAtMost() {
        Edge.says("GIVES times 8 less the eighths that all HARMS of the LOT that fall on it take together (8 at most), by 8, "
            + "rounded down.");
        Edge.gives(taken(80, 4, 3), 10, "left", 0, 3);
        Edge.gives(taken(80, 4, 4), 0, "left", 0, 3);
        Edge.gives(taken(80, 4, 5), 0, "left", 0, 3);
        Edge.gives(taken(99, 8, 8, 8, 8, 8, 8), 0, "left", 0, 63);
        Edge.gives(taken(80, 0, 0, 0, 0, 0, 0), 80, "left", 0, 63);
        Edge.gives(taken(80, 1, 1, 1, 1, 1, 1), 20, "left", 0, 63);
        // A HARM that is not of the LOT, and one that does not fall on it, take nothing.
        Edge.gives(taken(80, 4, 4), 40, "left", 0, 1);
        Edge.gives(taken(80, 4, 4), 40, "left", 0, 2);
        Story beside = Story.of("strip a at 5 5 gives 80;hail 6 to 9 takes 8 odds 8;frost 5 takes 8 odds 8;dry 2 takes 8 odds 8;");
        Edge.gives(beside, 80, "left", 0, 7);
        Story upon = Story.of("strip a at 5 5 gives 80;hail 5 to 9 takes 1 odds 8;frost 6 takes 2 odds 8;dry 1 takes 4 odds 8;");
        Edge.gives(upon, 10, "left", 0, 7);
    }

    private static void leftRoundedDown() {
        Edge.says("by 8, rounded down.");
        int[][] rows = {{7, 7, 0}, {8, 7, 1}, {15, 7, 1}, {16, 7, 2}, {1, 1, 0}, {8, 1, 7}, {9, 1, 7}, {99, 1, 86},
            {1, 0, 1}, {99, 0, 99}, {1, 8, 0}, {3, 4, 1}};
        for (int[] row : rows) {
            Edge.gives(taken(row[0], row[1]), row[2], "left", 0, 1);
        }
        // Each STRIP for itself: 7 and 7 leave nothing, though 14 would leave 1.
        Story two = Story.of("strip a at 0 0 gives 7;strip b at 0 0 gives 7;blight takes 7 odds 8;family x at 0 0 need 0;");
        Edge.gives(two, 0, "net", 0, 3, 1);
    }

    private static void round() {
        Story rich = Story.richWithTape();
        Edge.says("ROUND (1).");
        int[] want = {0, 6, 68, 68, 138, 138, 180, 180};
        int[] wantOther = {0, 92, 30, 92, 164, 194, 174, 194};
        for (int set = 0; set <= 7; set++) {
            Edge.gives(rich, want[set], "round", 0, set);
            Edge.gives(rich, wantOther[set], "round", 1, set);
        }
        Edge.refusesEach(rich, 1, "round", new long[] {0, 1}, 0, -1, 2, MIN, MAX);
        Edge.refusesEach(rich, 1, "round", new long[] {0, 1}, 1, -1, 8, MIN, MAX);
        Edge.refuses(Story.fresh(), 1, "round", 0, 0);
        // ROUND does not depend on who holds what, nor on PACE.
        Edge.gives(rich.then("hold", 1, 0).then("let", 0, 99), 180, "round", 0, 7);
    }

    private static void roundWithoutAny() {
        Edge.says("the fewest STEPS from its home to all of them, in any order, and home (0 without any)");
        Story alone = Story.of("family x at 99 99 need 1;");
        Edge.gives(alone, 0, "round", 0, 0);
        Edge.refuses(alone, 1, "round", 0, 1);
        Story home = Story.of("strip a at 0 99 gives 1;strip b at 99 0 gives 1;family x at 0 99 need 1;");
        Edge.gives(home, 0, "round", 0, 1);
        Edge.gives(home, 396, "round", 0, 2);
        Edge.gives(home, 396, "round", 0, 3);
    }

    /** The four corners and what is between: in the order of their numbers it would be much longer. */
    private static void roundOfTen() {
        Edge.says("From one PLACE to another it is as many STEPS as X differs and Y differs together.");
        int[][] places = {{99, 99}, {0, 0}, {0, 99}, {99, 0}, {50, 99}, {50, 0}, {0, 50}, {99, 50}, {0, 25}, {99, 25}};
        StringBuilder text = new StringBuilder();
        for (int i = 0; i < 10; i++) {
            text.append("strip ").append((char) ('a' + i)).append(" at ").append(places[i][0]).append(' ')
                .append(places[i][1]).append(" gives 1;");
        }
        Story ten = Story.of(text + "family x at 0 0 need 1;family y at 50 50 need 1;");
        Edge.gives(ten, 396, "round", 0, 1023);
        Edge.gives(ten, 396 + 98, "round", 1, 1023);
        Edge.gives(ten, 396, "round", 0, 15);
        Edge.gives(ten, 0, "round", 0, 2);
        Edge.refuses(ten, 1, "round", 0, 1024);
        Edge.refuses(ten, 1, "round", 0, -1);
        Edge.refuses(ten, 1, "net", 0, 1024, 0);
        Edge.refuses(ten, 1, "worth", 0, 1024);
        Edge.refuses(ten, 1, "hungry", 0, 1024);
        Edge.refuses(ten, 1, "odds", 0, 1024, 0);
    }

    private static void net() {
        Story rich = Story.richWithTape();
        Edge.says("NET (1).");
        // PACE is 6: ROUND takes 30.
        int[] want = {90, 0, 55, 0};
        for (int lot = 0; lot <= 3; lot++) {
            Edge.gives(rich, want[lot], "net", 0, 7, lot);
        }
        Edge.refusesEach(rich, 1, "net", new long[] {0, 1, 1}, 0, -1, 2, MIN, MAX);
        Edge.refusesEach(rich, 1, "net", new long[] {0, 1, 1}, 1, -1, 8, MIN, MAX);
        Edge.refusesEach(rich, 1, "net", new long[] {0, 1, 1}, 2, -1, 4, MIN, MAX);
        Edge.refuses(Story.fresh(), 1, "net", 0, 0, 0);
        Edge.gives(rich, 0, "net", 1, 0, 0);
        // A set of another's STRIPS may be asked for as well.
        Edge.gives(rich, 30 - 11, "net", 0, 2, 0);
    }

    private static void netAtLeastZero() {
        Edge.says("rounded down; 0 at least.");
        int[][] rows = {{3, 1}, {2, 0}, {1, 0}};
        for (int[] row : rows) {
            Edge.gives(Story.of("strip a at 10 0 gives " + row[0] + ";family x at 0 0 need 5;"), row[1], "net", 0, 1, 0);
        }
        // WORTH goes by the NET of 0, too.
        Edge.tells(Story.of("strip a at 99 0 gives 1;family x at 0 0 need 5;"), -5, 1, "worth", 0, 1);
    }

    private static void netRoundedDown() {
        Edge.says("LEFT of all of them, less ROUND by PACE (1 to 99; 10 at first), rounded down");
        Story way = Story.of("strip a at 7 0 gives 50;family x at 0 0 need 0;");
        int[][] rows = {{1, 36}, {2, 43}, {3, 46}, {4, 47}, {5, 48}, {7, 48}, {8, 49}, {13, 49}, {14, 49}, {15, 50}, {99, 50}};
        for (int[] row : rows) {
            Edge.gives(way.then("let", 0, row[0]), row[1], "net", 0, 1, 0);
        }
    }

    private static void odds() {
        Story rich = Story.richWithTape();
        Edge.says("The FRACTION is the ODDS that NET is at most a number (0 to 9,999) (1).");
        // NET of all is 90, 0, 55, 0 by WEIGHTS of 77, 35, 99, 45.
        int[][] rows = {{0, 5, 16}, {54, 5, 16}, {55, 179, 256}, {89, 179, 256}, {90, 1, 1}, {9998, 1, 1}, {9999, 1, 1}};
        for (int[] row : rows) {
            Edge.tells(rich, row[1], row[2], "odds", 0, 7, row[0]);
        }
        Edge.refusesEach(rich, 1, "odds", new long[] {0, 7, 55}, 0, -1, 2, MIN, MAX);
        Edge.refusesEach(rich, 1, "odds", new long[] {0, 7, 55}, 1, -1, 8, MIN, MAX);
        Edge.refusesEach(rich, 1, "odds", new long[] {0, 7, 55}, 2, -1, 10000, MIN, MAX);
        Edge.refuses(Story.fresh(), 1, "odds", 0, 0, 0);
        Story one = Story.of("strip a at 0 0 gives 9;family x at 0 0 need 0;");
        Edge.tells(one, 0, 1, "odds", 0, 1, 8);
        Edge.tells(one, 1, 1, "odds", 0, 1, 9);
    }

    private static void hungry() {
        Story rich = Story.richWithTape();
        Edge.says("The FRACTION is the ODDS that the FAMILY is HUNGRY by a set (1).");
        Edge.tells(rich, 5, 16, "hungry", 0, 7);
        Edge.tells(rich, 1, 1, "hungry", 0, 0);
        Edge.refusesEach(rich, 1, "hungry", new long[] {0, 1}, 0, -1, 2, MIN, MAX);
        Edge.refusesEach(rich, 1, "hungry", new long[] {0, 1}, 1, -1, 8, MIN, MAX);
        Edge.refuses(Story.fresh(), 1, "hungry", 0, 0);
        Edge.says("HUNGRY: SHORT is above 0.");
        String strip = "strip a at 0 0 gives 30;family x at 0 0 need ";
        Edge.tells(Story.of(strip + "29;"), 0, 1, "hungry", 0, 1);
        Edge.tells(Story.of(strip + "30;"), 0, 1, "hungry", 0, 1);
        Edge.tells(Story.of(strip + "31;"), 1, 1, "hungry", 0, 1);
        Edge.tells(Story.of(strip + "0;"), 0, 1, "hungry", 0, 0);
        Edge.tells(Story.of(strip + "1;"), 1, 1, "hungry", 0, 0);
    }

    private static void shortAtLeastZero() {
        Edge.says("SHORT: NEED less NET, 0 at least;");
        String strip = "strip a at 0 0 gives 30;family x at 0 0 need ";
        int[][] rows = {{0, 30}, {29, 30}, {30, 30}, {31, 20}, {32, 10}, {99, -660}};
        for (int[] row : rows) {
            Edge.tells(Story.of(strip + row[0] + ";").then("let", 1, 10), row[1], 1, "worth", 0, 1);
        }
    }

    private static void worth() {
        Story rich = Story.richWithTape();
        Edge.says("The FRACTION is WORTH (perhaps below 0) (1).");
        // NET 90, 0, 55, 0; SHORT 0, 20, 0, 20; HUNGER 3; 77 * 90 + 99 * 55 - 60 * 80.
        Edge.tells(rich, 7575, 256, "worth", 0, 7);
        Edge.tells(rich, -60, 1, "worth", 0, 0);
        Edge.refusesEach(rich, 1, "worth", new long[] {0, 1}, 0, -1, 2, MIN, MAX);
        Edge.refusesEach(rich, 1, "worth", new long[] {0, 1}, 1, -1, 8, MIN, MAX);
        Edge.refuses(Story.fresh(), 1, "worth", 0, 0);
        // The least and the greatest that there can be.
        Edge.tells(Story.of("family x at 0 0 need 99;").then("let", 1, 99), -9801, 1, "worth", 0, 0);
        StringBuilder ten = new StringBuilder();
        for (char name = 'a'; name <= 'j'; name++) {
            ten.append("strip ").append(name).append(" at 0 0 gives 99;");
        }
        Edge.tells(Story.of(ten + "family x at 0 0 need 0;"), 990, 1, "worth", 0, 1023);
    }

    private static void fractions() {
        Edge.says("FRACTIONS are told by top() and bottom() without a common divisor, the bottom above 0; 0 is 0 by 1.");
        Story half = Story.of("strip a at 0 0 gives 9;blight takes 8 odds 8;family x at 0 0 need 5;");
        Edge.tells(half, 1, 2, "hungry", 0, 1);
        Edge.tells(half, 2, 1, "worth", 0, 1);
        Edge.tells(half.then("let", 1, 2), -1, 2, "worth", 0, 1);
        Edge.tells(half.then("let", 1, 0), 9, 2, "worth", 0, 1);
        Edge.tells(half.then("likely", 0, 0), 0, 1, "hungry", 0, 1);
        Edge.tells(half.then("likely", 0, 16), 1, 1, "hungry", 0, 1);
        Edge.tells(half.then("likely", 0, 1), 1, 16, "hungry", 0, 1);
        Edge.tells(half.then("likely", 0, 15), 15, 16, "hungry", 0, 1);
        // 9 times a half less 9 times a half.
        Edge.tells(Story.of("strip a at 0 0 gives 9;blight takes 8 odds 8;family x at 0 0 need 9;"), 0, 1, "worth", 0, 1);
        // With six HARMS the bottom may be 16 six times over, in BESIDE twelve times.
        String six = "strip a at 0 0 gives 9;family x at 0 0 need 1 holds a;blight takes 8 odds 1;"
            + "dry 2 takes 1 odds 1;".repeat(5);
        Edge.tells(Story.of(six), 1, 16, "hungry", 0, 1);
        String all = "strip a at 0 0 gives 9;family x at 0 0 need 9 holds a;" + "blight takes 1 odds 1;".repeat(6);
        Edge.tells(Story.of(all), 16777216L - 11390625L, 16777216L, "hungry", 0, 1);
        // 11 without blight, 9 with one, 8 with two, 6 with three; 1 stays in the barn of a year without. In 16 six times over:
        // 70,966 for three and more, 759,375 for two, 11,390,625 for none.
        Story barn = Story.of("strip a at 0 0 gives 11;family x at 0 0 need 9 holds a;" + "blight takes 1 odds 1;".repeat(6));
        long top = 70966L * 16777216 + 759375L * (16777216 - 11390625);
        Edge.tells(barn, top, 1L << 48, "beside", 0, 2, -1, -1, 0, 0);
        Edge.says("The top of the FRACTION told latest.");
        Edge.gives(half.then("hungry", 0, 1).then("worth", 0, 0), -5, "top");
        Edge.gives(half.then("worth", 0, 0).then("hungry", 0, 1), 1, "top");
        Edge.gives(half.then("hungry", 0, 1).then("net", 0, 1, 0).then("worth", 1, 0).then("many", 0), 1, "top");
        Edge.says("Its bottom, above 0.");
        Edge.gives(half.then("hungry", 0, 1), 2, "bottom");
        Edge.gives(half.then("worth", 0, 0), 1, "bottom");
        Edge.gives(half.then("hungry", 0, 1).then("net", 0, 1, 0).then("worth", 1, 0).then("many", 0), 2, "bottom");
    }
}
