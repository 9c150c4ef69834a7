/** Promises 12 to 18: what is told of the VILLAGE, and what is changed in it. */
final class VillageEdges {
    private static final long MIN = Integer.MIN_VALUE;
    private static final long MAX = Integer.MAX_VALUE;

    private VillageEdges() {
    }

    static void run() {
        many();
        numberedAsTheyStand();
        strip();
        stripNumbers();
        harm();
        hailFalls();
        frostFalls();
        dryAndBlightFall();
        family();
        hold();
        let();
        pace();
        hunger();
        likely();
    }

    private static void many() {
        Story rich = Story.richWithTape();
        Edge.says("How many STRIPS (what 0), HARMS (1), FAMILIES (2) (1).");
        Edge.gives(rich, 3, "many", 0);
        Edge.gives(rich, 2, "many", 1);
        Edge.gives(rich, 2, "many", 2);
        Edge.refusesEach(rich, 1, "many", new long[] {0}, 0, -1, 3, MIN, MAX);
    }

    private static void numberedAsTheyStand() {
        Edge.says("STRIPS, at most 10, HARMS (hail, frost, dry, blight), at most 6, FAMILIES, at most 4, each numbered as "
            + "they stand.");
        Story told = Story.of("family y at 5 6 need 7;blight takes 1 odds 2;strip q at 8 9 gives 10;dry 2 takes 3 odds 4;"
            + "strip p at 11 12 gives 13;family x at 14 15 need 16;frost 17 takes 5 odds 6;hail 1 to 2 takes 7 odds 8;");
        int[] xs = {8, 11};
        int[] homes = {5, 14};
        for (int i = 0; i < 2; i++) {
            Edge.gives(told, xs[i], "strip", i, 0);
            Edge.gives(told, homes[i], "family", i, 0);
        }
        for (int h = 0; h < 4; h++) {
            Edge.gives(told, 3 - h, "harm", h, 0);
            Edge.gives(told, 2 * h + 1, "harm", h, 1);
            Edge.gives(told, 2 * h + 2, "harm", h, 2);
        }
    }

    private static void strip() {
        Story rich = Story.richWithTape();
        Edge.says("Of a STRIP, what 0: X, 1: Y, 2: GIVES, 3: SOIL, 4: the FAMILY that HOLDS it (6: nobody) (1).");
        int[][] want = {{1, 2, 40, 1}, {30, 4, 30, 2}, {9, 60, 50, 3}};
        for (int s = 0; s <= 2; s++) {
            for (int what = 0; what <= 3; what++) {
                Edge.gives(rich, want[s][what], "strip", s, what);
            }
        }
        Edge.gives(rich, 0, "strip", 0, 4);
        Edge.gives(rich, 1, "strip", 1, 4);
        Edge.refuses(rich, 6, "strip", 2, 4);
        Edge.refusesEach(rich, 1, "strip", new long[] {0, 0}, 0, -1, 3, MIN, MAX);
        Edge.refusesEach(rich, 1, "strip", new long[] {0, 0}, 1, -1, 5, MIN, MAX);
        Edge.refuses(rich, 1, "strip", 3, 4);
        Edge.refuses(rich, 1, "strip", 2, 5);
        Edge.refuses(Story.fresh(), 1, "strip", 0, 4);
    }

    private static void stripNumbers() {
        Edge.says("A STRIP has a PLACE (at: X, then Y), GIVES (1 to 99), a SOIL (1 to 3; 1 without).");
        Story least = Story.of("strip a at 0 99 gives 1;strip b at 99 0 gives 99 soil 3;");
        int[][] want = {{0, 99, 1, 1}, {99, 0, 99, 3}};
        for (int s = 0; s <= 1; s++) {
            for (int what = 0; what <= 3; what++) {
                Edge.gives(least, want[s][what], "strip", s, what);
            }
        }
        // One without SOIL behind one with another SOIL in the VILLAGE ahead.
        Edge.gives(least.village("strip c at 1 1 gives 1 soil 2;").village("strip a at 1 1 gives 1;"), 1, "strip", 0, 3);
        Edge.gives(least.village("strip a at 1 1 gives 1 soil 1;strip b at 2 2 gives 2;"), 1, "strip", 1, 3);
        Edge.says("it HOLDS the STRIPS told, all others are nobody's");
        Story nobody = Story.rich().village("strip a at 1 1 gives 1;strip b at 1 1 gives 1;family x at 1 1 need 1 holds b;");
        Edge.refuses(nobody, 6, "strip", 0, 4);
        Edge.gives(nobody, 0, "strip", 1, 4);
        Edge.gives(nobody, 2, "family", 0, 3);
    }

    private static void harm() {
        Story rich = Story.richWithTape();
        Edge.says("Of a HARM, what 0: its sort (0 hail, 1 frost, 2 dry, 3 blight), 1: takes, 2: odds, 3: the set of STRIPS "
            + "on which it falls (1).");
        int[][] want = {{0, 8, 5, 5}, {1, 4, 9, 3}};
        for (int h = 0; h <= 1; h++) {
            for (int what = 0; what <= 3; what++) {
                Edge.gives(rich, want[h][what], "harm", h, what);
            }
        }
        Edge.refusesEach(rich, 1, "harm", new long[] {0, 0}, 0, -1, 2, MIN, MAX);
        Edge.refusesEach(rich, 1, "harm", new long[] {0, 0}, 1, -1, 4, MIN, MAX);
        Edge.refuses(Story.fresh(), 1, "harm", 0, 3);
        Story extremes = Story.of("blight takes 0 odds 0;dry 3 takes 8 odds 16;");
        Edge.gives(extremes, 0, "harm", 0, 1);
        Edge.gives(extremes, 0, "harm", 0, 2);
        Edge.gives(extremes, 8, "harm", 1, 1);
        Edge.gives(extremes, 16, "harm", 1, 2);
        // Without STRIPS a HARM falls on none; with ten it may fall on all.
        Edge.gives(extremes, 0, "harm", 0, 3);
        StringBuilder ten = new StringBuilder("blight takes 1 odds 1;");
        for (char name = 'a'; name <= 'j'; name++) {
            ten.append("strip ").append(name).append(" at 1 1 gives 1;");
        }
        Edge.gives(Story.of(ten.toString()), 1023, "harm", 0, 3);
    }

    private static void hailFalls() {
        Edge.says("hail a to b: with X of a to b (b not below a)");
        String strips = "strip a at 4 0 gives 1;strip b at 5 0 gives 1;strip c at 7 99 gives 1;strip d at 8 6 gives 1;"
            + "strip e at 0 6 gives 1;strip f at 99 6 gives 1;";
        String[] spans = {"5 to 7", "4 to 8", "5 to 5", "6 to 6", "0 to 0", "99 to 99", "0 to 99", "8 to 99"};
        int[] falls = {6, 15, 2, 0, 16, 32, 63, 40};
        for (int i = 0; i < spans.length; i++) {
            String hail = "hail " + spans[i] + " takes 1 odds 1;";
            Edge.gives(Story.of(strips + hail), falls[i], "harm", 0, 3);
            Edge.gives(Story.of(hail + strips), falls[i], "harm", 0, 3);
        }
    }

    private static void frostFalls() {
        Edge.says("frost y: with Y below y");
        String strips = "strip a at 9 4 gives 1;strip b at 9 5 gives 1;strip c at 9 6 gives 1;strip d at 9 0 gives 1;"
            + "strip e at 9 99 gives 1;strip f at 0 98 gives 1;";
        int[] heights = {0, 1, 5, 6, 98, 99};
        int[] falls = {0, 8, 9, 11, 15, 47};
        for (int i = 0; i < heights.length; i++) {
            String frost = "frost " + heights[i] + " takes 1 odds 1;";
            Edge.gives(Story.of(strips + frost), falls[i], "harm", 0, 3);
            Edge.gives(Story.of(frost + strips), falls[i], "harm", 0, 3);
        }
    }

    private static void dryAndBlightFall() {
        Edge.says("dry s: of SOIL s (1 to 3); blight: on all");
        String strips = "strip a at 1 1 gives 1;strip b at 2 2 gives 1 soil 1;strip c at 3 3 gives 1 soil 2;"
            + "strip d at 0 0 gives 1 soil 3;";
        String[] harms = {"dry 1", "dry 2", "dry 3", "blight"};
        int[] falls = {3, 4, 8, 15};
        for (int i = 0; i < harms.length; i++) {
            String harm = harms[i] + " takes 1 odds 1;";
            Edge.gives(Story.of(strips + harm), falls[i], "harm", 0, 3);
            Edge.gives(Story.of(harm + strips), falls[i], "harm", 0, 3);
        }
    }

    private static void family() {
        Story rich = Story.richWithTape();
        Edge.says("Of a FAMILY, what 0: X, 1: Y, 2: NEED, 3: the set that it HOLDS (1).");
        int[][] want = {{0, 0, 20, 1}, {40, 9, 10, 2}};
        for (int f = 0; f <= 1; f++) {
            for (int what = 0; what <= 3; what++) {
                Edge.gives(rich, want[f][what], "family", f, what);
            }
        }
        Edge.refusesEach(rich, 1, "family", new long[] {0, 0}, 0, -1, 2, MIN, MAX);
        Edge.refusesEach(rich, 1, "family", new long[] {0, 0}, 1, -1, 4, MIN, MAX);
        Edge.refuses(Story.fresh(), 1, "family", 0, 3);
        Story extremes = Story.of("family x at 0 99 need 0;family y at 99 0 need 99;");
        int[][] ends = {{0, 99, 0, 0}, {99, 0, 99, 0}};
        for (int f = 0; f <= 1; f++) {
            for (int what = 0; what <= 3; what++) {
                Edge.gives(extremes, ends[f][what], "family", f, what);
            }
        }
    }

    private static void hold() {
        Story rich = Story.richWithTape();
        Edge.says("A FAMILY (NONE: nobody) HOLDS a STRIP now (1, 7).");
        Edge.gives(rich, 1, "hold", 2, 0);
        Edge.gives(rich, 1, "hold", 2, 1);
        Edge.gives(rich, 1, "hold", 0, 1);
        Edge.gives(rich, 1, "hold", 0, -1);
        Edge.gives(rich.then("hold", 0, 1), 1, "strip", 0, 4);
        Edge.gives(rich.then("hold", 0, 1), 0, "family", 0, 3);
        Edge.gives(rich.then("hold", 0, 1), 3, "family", 1, 3);
        Edge.refuses(rich.then("hold", 0, -1), 6, "strip", 0, 4);
        Edge.refuses(rich, 7, "hold", 0, 0);
        Edge.refuses(rich, 7, "hold", 1, 1);
        Edge.refuses(rich, 7, "hold", 2, -1);
        Edge.refuses(rich.then("hold", 2, 1), 7, "hold", 2, 1);
        Edge.refusesEach(rich, 1, "hold", new long[] {0, 1}, 0, -1, 3, MIN, MAX);
        Edge.refusesEach(rich, 1, "hold", new long[] {0, 1}, 1, -2, 2, MIN, MAX);
        // Nobody HOLDS what is no STRIP: 1 comes ahead of 7.
        Edge.refuses(rich, 1, "hold", 3, -1);
        Edge.refuses(rich, 1, "hold", -1, -1);
        Edge.refuses(Story.fresh(), 1, "hold", 0, -1);
        // One FAMILY may hold all ten.
        StringBuilder text = new StringBuilder("family x at 0 0 need 1;");
        for (char name = 'a'; name <= 'j'; name++) {
            text.append("strip ").append(name).append(" at 1 1 gives 1;");
        }
        Story all = Story.of(text.toString());
        for (int s = 0; s < 10; s++) {
            all = all.then("hold", s, 0);
        }
        Edge.gives(all, 1023, "family", 0, 3);
        Edge.refuses(all, 1, "hold", 10, 0);
    }

    private static void let() {
        Story rich = Story.richWithTape();
        Edge.says("PACE (what 0), HUNGER (1) (1).");
        for (long v : new long[] {1, 6, 99}) {
            Edge.gives(rich, 1, "let", 0, v);
        }
        for (long v : new long[] {0, 3, 99}) {
            Edge.gives(rich, 1, "let", 1, v);
        }
        Edge.refusesEach(rich, 1, "let", new long[] {0, 5}, 0, -1, 2, MIN, MAX);
        Edge.refusesEach(rich, 1, "let", new long[] {0, 5}, 1, -1, 0, 100, MIN, MAX);
        Edge.refusesEach(rich, 1, "let", new long[] {1, 5}, 1, -1, 100, MIN, MAX);
        Edge.gives(Story.fresh(), 1, "let", 0, 99);
        Edge.gives(Story.fresh(), 1, "let", 1, 0);
    }

    /** Out and home it is 198 STEPS; what is left of 99 tells PACE. */
    private static void pace() {
        Edge.says("less ROUND by PACE (1 to 99; 10 at first), rounded down");
        Story far = Story.of("strip a at 99 0 gives 99;strip b at 99 0 gives 99;strip c at 99 0 gives 99;"
            + "family x at 0 0 need 0;");
        Edge.gives(far.then("let", 0, 1), 99, "net", 0, 7, 0);
        Edge.gives(far.then("let", 0, 2), 198, "net", 0, 7, 0);
        Edge.gives(far.then("let", 0, 98), 295, "net", 0, 7, 0);
        Edge.gives(far.then("let", 0, 99), 295, "net", 0, 7, 0);
        Edge.gives(far.then("let", 0, 66), 294, "net", 0, 7, 0);
        Edge.gives(far.then("let", 0, 67), 295, "net", 0, 7, 0);
        Edge.gives(far.then("let", 0, 66).then("let", 0, 100).then("let", 0, 0), 294, "net", 0, 7, 0);
        // Another VILLAGE does not change it, nor does HUNGER.
        Edge.gives(Story.fresh().then("let", 0, 2).village("strip a at 9 0 gives 99;family x at 0 0 need 0;"), 90,
            "net", 0, 1, 0);
        Edge.gives(far.then("let", 0, 2).then("let", 1, 50), 198, "net", 0, 7, 0);
    }

    private static void hunger() {
        Edge.says("of NET less HUNGER (0 to 99; 1 at first) times SHORT");
        Story need = Story.of("strip a at 0 0 gives 30;family x at 0 0 need 40;");
        Edge.tells(need, 20, 1, "worth", 0, 1);
        Edge.tells(need.then("let", 1, 0), 30, 1, "worth", 0, 1);
        Edge.tells(need.then("let", 1, 1), 20, 1, "worth", 0, 1);
        Edge.tells(need.then("let", 1, 3), 0, 1, "worth", 0, 1);
        Edge.tells(need.then("let", 1, 98), -950, 1, "worth", 0, 1);
        Edge.tells(need.then("let", 1, 99), -960, 1, "worth", 0, 1);
        Edge.tells(need.then("let", 1, 99).then("let", 1, 100).then("let", 1, -1), -960, 1, "worth", 0, 1);
        Edge.tells(need.then("let", 1, 99).then("let", 0, 1), -960, 1, "worth", 0, 1);
    }

    private static void likely() {
        Story rich = Story.richWithTape();
        Edge.says("A HARM has other odds now (1).");
        for (long odds : new long[] {0, 1, 15, 16}) {
            Edge.gives(rich, 1, "likely", 1, odds);
            Edge.gives(rich.then("likely", 1, odds), odds, "harm", 1, 2);
            Edge.gives(rich.then("likely", 1, odds), 5, "harm", 0, 2);
            Edge.gives(rich.then("likely", 1, odds), 5 * odds, "weight", 3);
            Edge.gives(rich.then("likely", 1, odds), 11 * (16 - odds), "weight", 0);
        }
        // The odds that it has already are no reason to refuse.
        Edge.gives(rich, 1, "likely", 0, 5);
        Edge.refusesEach(rich, 1, "likely", new long[] {0, 8}, 0, -1, 2, MIN, MAX);
        Edge.refusesEach(rich, 1, "likely", new long[] {0, 8}, 1, -1, 17, MIN, MAX);
        Edge.refuses(Story.fresh(), 1, "likely", 0, 0);
        // Where it falls and what it takes stays.
        Edge.gives(rich.then("likely", 0, 16), 5, "harm", 0, 3);
        Edge.gives(rich.then("likely", 0, 16), 8, "harm", 0, 1);
        Edge.gives(rich.then("likely", 0, 16), 0, "harm", 0, 0);
    }
}
