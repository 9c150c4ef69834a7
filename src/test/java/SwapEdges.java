/** Promises 32 to 35: SWAPS, RINGS, SETTLED. */
final class SwapEdges {
    private static final long MIN = Integer.MIN_VALUE;
    private static final long MAX = Integer.MAX_VALUE;

    private SwapEdges() {
    }

    static void run() {
        swaps();
        growsForBoth();
        swap();
        swapsInOrder();
        ring();
        growsForAll();
        firstRing();
        settle();
        firstOfTheFirstCouple();
        settledByHand();
    }

    /** A STRIP far from home costs 2: x would have a for b if a gives more than 18, y if less than 22. */
    private static Story couple(int gives) {
        return Story.of("strip a at 0 0 gives " + gives + ";strip b at 10 0 gives 20;family x at 0 0 need 0 holds b;"
            + "family y at 10 0 need 0 holds a;family z at 0 0 need 0;");
    }

    private static void swaps() {
        Story rich = Story.richWithTape();
        Edge.says("How many SWAPS two FAMILIES have (1: one and the same, too).");
        Edge.gives(rich, 0, "swaps", 0, 1);
        Edge.gives(couple(20), 1, "swaps", 0, 1);
        Edge.gives(couple(20), 1, "swaps", 1, 0);
        Edge.gives(couple(20), 0, "swaps", 0, 2);
        Edge.gives(couple(20), 0, "swaps", 2, 1);
        Edge.refuses(rich, 1, "swaps", 0, 0);
        Edge.refuses(rich, 1, "swaps", 1, 1);
        Edge.refusesEach(rich, 1, "swaps", new long[] {0, 1}, 0, -1, 2, MIN, MAX);
        Edge.refusesEach(rich, 1, "swaps", new long[] {0, 1}, 1, -1, 2, MIN, MAX);
        Edge.refuses(Story.fresh(), 1, "swaps", 0, 1);
        Edge.refuses(Story.of("family x at 0 0 need 0;"), 1, "swaps", 0, 1);
    }

    private static void growsForBoth() {
        Edge.says("a STRIP of the one for one of the other, by which WORTH of what they hold grows for both.");
        for (int gives = 17; gives <= 23; gives++) {
            int want = gives >= 19 && gives <= 21 ? 1 : 0;
            Edge.gives(couple(gives), want, "swaps", 0, 1);
            Edge.gives(couple(gives), want, "swaps", 1, 0);
            Edge.gives(couple(gives), want, "settle");
        }
        // A STRIP that is nobody's can't be swapped.
        Edge.gives(couple(20).then("hold", 0, -1), 0, "swaps", 0, 1);
        Edge.gives(couple(20).then("hold", 0, 0).then("hold", 1, 1), 0, "swaps", 0, 1);
    }

    /** Each holds two of one SOIL, and would rather have one of each: all four SWAPS are wanted. */
    private static Story fourSwaps() {
        return Story.of("strip a at 0 0 gives 20;strip b at 0 0 gives 20 soil 2;strip c at 0 0 gives 20;"
            + "strip d at 0 0 gives 20 soil 2;dry 1 takes 8 odds 8;dry 2 takes 8 odds 8;"
            + "family x at 0 0 need 20 holds b holds d;family y at 0 0 need 20 holds a holds c;");
    }

    private static void swap() {
        Story four = fourSwaps();
        Edge.says("Of the k-th SWAP (from 0) of two FAMILIES, what 0: the one's STRIP, 1: the other's (1: k below 0, too; 6).");
        Edge.gives(four, 4, "swaps", 0, 1);
        Edge.gives(four, 1, "swap", 0, 1, 0, 0);
        Edge.gives(four, 3, "swap", 0, 1, 3, 0);
        Edge.refuses(four, 6, "swap", 0, 1, 4, 0);
        Edge.refuses(four, 6, "swap", 0, 1, MAX, 1);
        Edge.refusesEach(four, 1, "swap", new long[] {0, 1, 0, 0}, 0, -1, 1, 2, MIN, MAX);
        Edge.refusesEach(four, 1, "swap", new long[] {0, 1, 0, 0}, 1, -1, 0, 2, MIN, MAX);
        Edge.refusesEach(four, 1, "swap", new long[] {0, 1, 0, 0}, 2, -1, MIN);
        Edge.refusesEach(four, 1, "swap", new long[] {0, 1, 0, 0}, 3, -1, 2, MIN, MAX);
        Story rich = Story.richWithTape();
        Edge.refuses(rich, 6, "swap", 0, 1, 0, 0);
        Edge.refuses(rich, 1, "swap", 0, 0, 0, 0);
        // No such SWAP, and a number that can't be.
        Edge.refuses(rich, 1, "swap", 0, 1, 0, 2);
        Edge.refuses(rich, 1, "swap", 0, 1, 9, -1);
        Edge.refuses(rich, 1, "swap", 0, 2, 9, 0);
        Edge.refuses(Story.fresh(), 1, "swap", 0, 1, 0, 0);
    }

    private static void swapsInOrder() {
        Edge.says("They stand by the one's STRIP, then the other's.");
        int[][] ones = {{1, 0}, {1, 2}, {3, 0}, {3, 2}};
        int[][] others = {{0, 1}, {0, 3}, {2, 1}, {2, 3}};
        for (int k = 0; k < 4; k++) {
            for (int what = 0; what <= 1; what++) {
                Edge.gives(fourSwaps(), ones[k][what], "swap", 0, 1, k, what);
                Edge.gives(fourSwaps(), others[k][what], "swap", 1, 0, k, what);
            }
        }
        // With a too good to give: y gives c alone.
        Story dear = Story.of("strip a at 0 0 gives 99;strip b at 0 0 gives 20 soil 2;strip c at 0 0 gives 20;"
            + "strip d at 0 0 gives 20 soil 2;dry 1 takes 8 odds 8;dry 2 takes 8 odds 8;"
            + "family x at 0 0 need 20 holds b holds d;family y at 0 0 need 20 holds a holds c;");
        Edge.gives(dear, 2, "swaps", 0, 1);
        Edge.gives(dear, 2, "swap", 0, 1, 0, 1);
        Edge.gives(dear, 3, "swap", 0, 1, 1, 0);
        Edge.refuses(dear, 6, "swap", 0, 1, 2, 0);
    }

    /** Home is at 0, 40, 80; what x holds is y's, what y holds is z's, what z holds is x's. */
    private static Story three(int a, int b, int c) {
        return Story.of("strip a at 0 0 gives " + a + ";strip b at 40 0 gives " + b + ";strip c at 80 0 gives " + c + ";"
            + "family x at 0 0 need 0 holds b;family y at 40 0 need 0 holds c;family z at 80 0 need 0 holds a;"
            + "family w at 0 0 need 0;");
    }

    private static void ring() {
        Story three = three(20, 20, 20);
        Edge.says("Of the first RING of three FAMILIES, what 0 to 2: the STRIP that the first, second, third one gives (1: two "
            + "and the same, too; 6: no RING).");
        int[] want = {1, 2, 0};
        for (int what = 0; what <= 2; what++) {
            Edge.gives(three, want[what], "ring", 0, 1, 2, what);
            Edge.gives(three, want[(what + 1) % 3], "ring", 1, 2, 0, what);
            Edge.gives(three, want[(what + 2) % 3], "ring", 2, 0, 1, what);
            Edge.refuses(three, 6, "ring", 0, 2, 1, what);
        }
        Edge.refuses(three, 6, "ring", 0, 1, 3, 0);
        long[] good = {0, 1, 2, 0};
        Edge.refusesEach(three, 1, "ring", good, 0, -1, 1, 2, 4, MIN, MAX);
        Edge.refusesEach(three, 1, "ring", good, 1, -1, 0, 2, 4, MIN, MAX);
        Edge.refusesEach(three, 1, "ring", good, 2, -1, 0, 1, 4, MIN, MAX);
        Edge.refusesEach(three, 1, "ring", good, 3, -1, 3, MIN, MAX);
        Edge.refuses(three, 1, "ring", 1, 1, 1, 0);
        // No RING, and a number that can't be.
        Edge.refuses(three, 1, "ring", 0, 2, 1, 3);
        Edge.refuses(three, 1, "ring", 0, 2, 1, -1);
        Story rich = Story.richWithTape();
        Edge.refuses(rich, 1, "ring", 0, 1, 2, 0);
        Edge.refuses(rich, 1, "ring", 0, 1, 0, 0);
        Edge.refuses(Story.fresh(), 1, "ring", 0, 1, 2, 0);
    }

    private static void growsForAll() {
        Edge.says("a STRIP of the first goes to the second, one of that to the third, one of that to the first, and WORTH grows "
            + "for all");
        // x wants a above b less 8, y wants b above c less 8, z wants c above a less 16.
        int[][] rows = {{12, 20, 20, 0}, {13, 20, 20, 1}, {35, 20, 20, 1}, {36, 20, 20, 0}, {20, 12, 20, 0}, {20, 13, 20, 1},
            {20, 27, 20, 1}, {20, 28, 20, 0}, {20, 20, 4, 0}, {20, 20, 5, 1}, {20, 20, 27, 1}, {20, 20, 28, 0}};
        for (int[] row : rows) {
            Story story = three(row[0], row[1], row[2]);
            if (row[3] == 1) {
                Edge.gives(story, 1, "ring", 0, 1, 2, 0);
            } else {
                Edge.refuses(story, 6, "ring", 0, 1, 2, 0);
            }
        }
        Edge.refuses(three(20, 20, 20).then("hold", 0, -1), 6, "ring", 0, 1, 2, 0);
        Edge.refuses(three(20, 20, 20).then("hold", 0, 3), 6, "ring", 0, 1, 2, 0);
    }

    /** Each holds two of one SOIL: by any ring each gets one of another. */
    private static Story sixStrips(int a, int b, int c) {
        return Story.of("strip a at 0 0 gives " + a + " soil 2;strip b at 0 0 gives " + b + ";strip c at 0 0 gives " + c
            + " soil 3;strip d at 0 0 gives 20 soil 2;strip e at 0 0 gives 20;strip f at 0 0 gives 20 soil 3;"
            + "dry 1 takes 8 odds 8;dry 2 takes 8 odds 8;dry 3 takes 8 odds 8;family x at 0 0 need 20 holds b holds e;"
            + "family y at 0 0 need 20 holds a holds d;family z at 0 0 need 20 holds c holds f;");
    }

    private static void firstRing() {
        Edge.says("the first by the first's STRIP, then the second's, then the third's.");
        ringOf(sixStrips(20, 20, 20), 0, 1, 2, 1, 0, 2);
        ringOf(sixStrips(20, 20, 20), 2, 1, 0, 2, 0, 1);
        ringOf(sixStrips(20, 20, 20), 1, 2, 0, 0, 2, 1);
        // What is too good to give is left out, of the one or of the other.
        ringOf(sixStrips(99, 20, 20), 0, 1, 2, 1, 3, 2);
        ringOf(sixStrips(20, 99, 20), 0, 1, 2, 4, 0, 2);
        ringOf(sixStrips(20, 20, 99), 0, 1, 2, 1, 0, 5);
        ringOf(sixStrips(99, 99, 20), 0, 1, 2, 4, 3, 2);
        ringOf(sixStrips(99, 99, 99), 0, 1, 2, 1, 0, 2);
    }

    private static void ringOf(Story story, int one, int two, int three, int... want) {
        for (int what = 0; what <= 2; what++) {
            Edge.gives(story, want[what], "ring", one, two, three, what);
        }
    }

    private static void settle() {
        Edge.says("SETTLED: how many SWAPS were done.");
        Edge.gives(Story.fresh(), 0, "settle");
        Edge.gives(Story.richWithTape(), 0, "settle");
        Edge.gives(Story.of("strip a at 0 0 gives 1;family x at 0 0 need 1 holds a;"), 0, "settle");
        // Who would be better off without two of its STRIPS does not swap them with itself.
        Edge.gives(Story.of("strip a at 99 0 gives 1;strip b at 0 99 gives 1;strip c at 0 0 gives 50;"
            + "family x at 0 0 need 0 holds a holds b holds c;family y at 0 0 need 0;"), 0, "settle");
        Edge.gives(couple(20), 1, "settle");
        Edge.gives(couple(20).then("settle"), 0, "settle");
        Edge.gives(couple(20).then("settle"), 1, "family", 0, 3);
        Edge.gives(couple(20).then("settle"), 2, "family", 1, 3);
        Edge.gives(couple(20).then("settle"), 0, "swaps", 0, 1);
        Edge.gives(three(20, 20, 20), 2, "settle");
    }

    private static void firstOfTheFirstCouple() {
        Edge.says("as long as there are SWAPS (at most 100 are done): the first of the first couple of FAMILIES (by the lesser, "
            + "then the greater number) that has some is done.");
        // All have SWAPS with x, who wants what is at its home; those of y come first.
        String strips = "strip a at 50 0 gives 20;strip b at 0 0 gives 20;strip c at 0 0 gives 20;";
        Story first = Story.of(strips + "family x at 0 0 need 0 holds a;family y at 50 0 need 0 holds c;"
            + "family z at 50 0 need 0 holds b;");
        Edge.gives(first, 1, "settle");
        Edge.gives(first.then("settle"), 4, "family", 0, 3);
        Edge.gives(first.then("settle"), 1, "family", 1, 3);
        Edge.gives(first.then("settle"), 2, "family", 2, 3);
        // The same, the other way round: 0 with 2 comes ahead of 1 with 2.
        Story second = Story.of(strips + "family x at 50 0 need 0 holds b;family y at 50 0 need 0 holds c;"
            + "family z at 0 0 need 0 holds a;");
        Edge.gives(second, 1, "settle");
        Edge.gives(second.then("settle"), 1, "family", 0, 3);
        Edge.gives(second.then("settle"), 4, "family", 1, 3);
        Edge.gives(second.then("settle"), 2, "family", 2, 3);
        // 1 with 2 where 0 has none; 2 with 3 where nobody else has some.
        Story later = Story.of(strips + "family w at 0 0 need 0;family x at 0 0 need 0 holds a;family y at 50 0 need 0 holds c;"
            + "family z at 50 0 need 0 holds b;");
        Edge.gives(later.then("settle"), 4, "family", 1, 3);
        Edge.gives(later.then("settle"), 1, "family", 2, 3);
        Story last = Story.of(strips + "family v at 0 0 need 0;family w at 9 9 need 0;family y at 50 0 need 0 holds c;"
            + "family z at 0 0 need 0 holds a;");
        Edge.gives(last, 1, "settle");
        Edge.gives(last.then("settle"), 1, "family", 2, 3);
        Edge.gives(last.then("settle"), 4, "family", 3, 3);
        // The first SWAP of the couple is the one by the lesser's STRIP, then the other's.
        Edge.gives(fourSwaps(), 1, "settle");
        Edge.gives(fourSwaps().then("settle"), 1 + 8, "family", 0, 3);
        Edge.gives(fourSwaps().then("settle"), 2 + 4, "family", 1, 3);
    }

    /** By PACE 2 ten SWAPS, one behind the other. */
    private static final String LONG = "strip a at 11 79 gives 95;strip b at 20 77 gives 99;strip c at 64 30 gives 81;"
        + "strip d at 10 20 gives 82;strip e at 52 36 gives 86;strip f at 90 20 gives 81;strip g at 35 72 gives 82;"
        + "strip h at 77 30 gives 86;strip i at 37 20 gives 82;strip j at 52 79 gives 78;"
        + "family a at 22 2 need 94 holds c holds g;family b at 23 62 need 48 holds b holds f holds h;"
        + "family c at 89 38 need 88 holds d holds i holds j;family d at 73 46 need 11 holds a holds e;";

    /**
     * With what is held by longest(), PACE 29 and HUNGER 99: 29 SWAPS. It was sought by small changes of drawn VILLAGES
     * for hours of reckoning. If each STRIP had a worth of its own to each FAMILY, there could be 37 at most.
     */
    private static final String LONGEST = "strip a at 6 99 gives 28 soil 3;strip b at 64 82 gives 29 soil 3;"
        + "strip c at 49 19 gives 21 soil 2;strip d at 25 56 gives 19 soil 2;strip e at 13 31 gives 82 soil 3;"
        + "strip f at 9 20 gives 22 soil 2;strip g at 89 76 gives 56 soil 2;strip h at 68 0 gives 26 soil 2;"
        + "strip i at 34 13 gives 89 soil 2;strip j at 58 66 gives 25 soil 3;blight takes 7 odds 11;dry 1 takes 2 odds 14;"
        + "dry 2 takes 6 odds 3;blight takes 1 odds 15;dry 3 takes 4 odds 15;dry 2 takes 1 odds 11;"
        + "family p at 81 45 need 19;family q at 84 57 need 5;family r at 34 99 need 68;";

    private static Story longest() {
        int[] holders = {0, 2, 0, 0, 2, 1, 1, 0, 0, 2};
        Story story = Story.of(LONGEST).then("let", 0, 29).then("let", 1, 99);
        for (int strip = 0; strip < holders.length; strip++) {
            story = story.then("hold", strip, holders[strip]);
        }
        return story;
    }

    private static void settledByHand() {
        Edge.says("SETTLED: as long as there are SWAPS");
        Story[] stories = {couple(20), three(20, 20, 20), fourSwaps(), sixStrips(20, 20, 20), sixStrips(99, 20, 30),
            Story.of(LONG), Story.of(LONG).then("let", 0, 1), Story.of(LONG).then("let", 0, 2).then("let", 1, 40), longest(), Story.rich()};
        int most = 0;
        for (Story story : stories) {
            Story byHand = story;
            int done = 0;
            for (Story next = oneSwap(byHand); next != null && done < 100; next = oneSwap(byHand)) {
                byHand = next;
                done++;
            }
            Edge.gives(story, done, "settle");
            Edge.same(byHand, story.then("settle"), Portrait.LAND, Portrait.MARKS);
            most = Math.max(most, done);
        }
        Check.due("the longest run of SWAPS among them", most, 29);
    }

    /** The story with the first SWAP of the first couple done by hold(); null without one. */
    private static Story oneSwap(Story story) {
        HailHill hill = story.make();
        for (int one = 0; one < hill.many(2); one++) {
            for (int other = one + 1; other < hill.many(2); other++) {
                if (hill.swaps(one, other) > 0) {
                    return story.then("hold", hill.swap(one, other, 0, 0), other)
                        .then("hold", hill.swap(one, other, 0, 1), one);
                }
            }
        }
        return null;
    }
}
