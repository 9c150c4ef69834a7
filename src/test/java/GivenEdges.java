/** Promises 36 to 39: GIVEN, NARROW, TOGETHER. */
final class GivenEdges {
    private static final long MIN = Integer.MIN_VALUE;
    private static final long MAX = Integer.MAX_VALUE;

    private GivenEdges() {
    }

    static void run() {
        give();
        atMost();
        leastMean();
        worstLot();
        firstOfSeveral();
        given();
        narrow();
        narrowHalves();
        narrowOdds();
        together();
        togetherInOrder();
        togetherLess();
    }

    private static String strips(int count) {
        StringBuilder text = new StringBuilder();
        for (int i = 0; i < count; i++) {
            text.append("strip ").append((char) ('a' + i)).append(" at 0 0 gives 1;");
        }
        return text.toString();
    }

    /** They need 1, 2, 3, and so on. */
    private static String families(int count) {
        StringBuilder text = new StringBuilder();
        for (int i = 0; i < count; i++) {
            text.append("family ").append((char) ('a' + i)).append(" at 0 0 need ").append(i + 1).append(';');
        }
        return text.toString();
    }

    private static Story village(int strips, int families) {
        return Story.of(strips(strips) + families(families));
    }

    private static void give() {
        Story rich = Story.richWithTape();
        Edge.says("GIVEN, of a kind; the FRACTION is that mean, that number (1; 4; 6: no FAMILY).");
        Edge.gives(rich, 1, "give", 0);
        Edge.gives(rich, 1, "give", 1);
        Edge.refusesEach(rich, 1, "give", new long[] {0}, 0, -1, 2, MIN, MAX);
        Edge.refuses(Story.fresh(), 6, "give", 0);
        Edge.refuses(Story.fresh(), 1, "give", 2);
        Edge.refuses(village(8, 0), 6, "give", 1);
        Edge.refuses(village(9, 0), 4, "give", 0);
        Edge.refuses(village(9, 0), 1, "give", -1);
        Edge.refuses(village(9, 4), 4, "give", 1);
        Edge.refuses(village(9, 4), 1, "give", 2);
        // What was given ahead stays, when it is refused.
        Edge.refuses(Story.rich().village(strips(9) + families(1)), 4, "give", 0);
        Edge.refuses(rich.then("village", 0), 6, "give", 0);
    }

    private static void atMost() {
        Edge.says("of all ways to give each STRIP to one of the FAMILIES (at most 8 STRIPS, 3 FAMILIES, one at least)");
        for (int strips = 7; strips <= 10; strips++) {
            for (int families = 1; families <= 4; families += families == 1 ? 2 : 1) {
                Story story = village(strips, families);
                if (strips <= 8 && families <= 3) {
                    Edge.tells(story, 0, 1, "give", 0);
                    Edge.tells(story, 0, 1, "give", 1);
                } else {
                    Edge.refuses(story, 4, "give", 0);
                    Edge.refuses(story, 4, "give", 1);
                }
            }
        }
        Edge.tells(village(0, 1), 1, 1, "give", 0);
        Edge.tells(village(0, 3), 3, 1, "give", 1);
        Edge.refuses(village(0, 4), 4, "give", 0);
        // All to the one; and of eight the last ones to those who need 2 and 3.
        ways(village(8, 1).then("give", 0), 0, 0, 0, 0, 0, 0, 0, 0);
        ways(village(8, 3).then("give", 1), 0, 0, 0, 1, 1, 2, 2, 2);
        // Six are needed and five there: one goes hungry, and it is the cheapest to leave the third out.
        Edge.tells(village(5, 3), 1, 1, "give", 0);
        ways(village(5, 3).then("give", 0), 0, 0, 0, 1, 1);
    }

    private static void ways(Story story, int... want) {
        for (int s = 0; s < want.length; s++) {
            Edge.gives(story, want[s], "given", s);
        }
        Edge.refuses(story, 1, "given", want.length);
    }

    /** By two apart each is HUNGRY in a year of blight, with both for one of them the other one always is. */
    private static Story twoAndBlight(int odds) {
        return Story.of("strip a at 0 0 gives 10;strip b at 0 0 gives 10;blight takes 4 odds " + odds + ";"
            + "family x at 0 0 need 10;family y at 0 0 need 10;");
    }

    private static void leastMean() {
        Edge.says("that with the least mean of how many are HUNGRY (kind 0)");
        Edge.tells(twoAndBlight(0), 0, 1, "give", 0);
        Edge.tells(twoAndBlight(1), 1, 8, "give", 0);
        ways(twoAndBlight(1).then("give", 0), 0, 1);
        Edge.tells(twoAndBlight(7), 7, 8, "give", 0);
        ways(twoAndBlight(7).then("give", 0), 0, 1);
        // 8 sixteenths twice are as much as one always; then the first way is the one.
        Edge.tells(twoAndBlight(8), 1, 1, "give", 0);
        ways(twoAndBlight(8).then("give", 0), 0, 0);
        Edge.tells(twoAndBlight(16), 1, 1, "give", 0);
        ways(twoAndBlight(16).then("give", 0), 0, 0);
    }

    private static void worstLot() {
        Edge.says("the least number of HUNGRY ones in the worst LOT (kind 1; WEIGHTS above 0 alone)");
        // With odds of 0 the LOT with blight, with odds of 16 the LOT without it has no WEIGHT.
        Edge.tells(twoAndBlight(0), 0, 1, "give", 1);
        ways(twoAndBlight(0).then("give", 1), 0, 1);
        Edge.tells(twoAndBlight(1), 1, 1, "give", 1);
        ways(twoAndBlight(1).then("give", 1), 0, 0);
        Edge.tells(twoAndBlight(16), 1, 1, "give", 1);
        Story sure = Story.of("strip a at 0 0 gives 10;strip b at 1 0 gives 10;hail 0 to 0 takes 8 odds 16;family x at 0 0 need 10;");
        Edge.tells(sure, 0, 1, "give", 1);
        // All three, two of three, one, none.
        for (int hungry = 0; hungry <= 3; hungry++) {
            StringBuilder text = new StringBuilder();
            for (int f = 0; f < 3; f++) {
                text.append("family ").append((char) ('x' + f)).append(" at 0 0 need ").append(f < hungry ? 1 : 0).append(';');
            }
            Edge.tells(Story.of(text.toString()), hungry, 1, "give", 1);
            Edge.tells(Story.of(text.toString()), hungry, 1, "give", 0);
        }
        // Of 8 there are 3 left by five HARMS, 2 by all six: who needs 3 is HUNGRY in the very last LOT alone.
        for (int need = 2; need <= 4; need++) {
            Story six = Story.of("strip a at 0 0 gives 8;family x at 0 0 need " + need + ";" + "blight takes 1 odds 1;".repeat(6));
            Edge.tells(six, need > 2 ? 1 : 0, 1, "give", 1);
        }
        Story lastLot = Story.of("strip a at 0 0 gives 8;family x at 0 0 need 3;" + "blight takes 1 odds 1;".repeat(6));
        Edge.tells(lastLot, 1, 16777216, "give", 0);
        Edge.tells(lastLot.then("likely", 5, 0), 0, 1, "give", 1);
        // One is HUNGRY in one LOT, another one in another: one in the worst.
        Story apart = Story.of("strip a at 0 0 gives 10;strip b at 9 0 gives 10;hail 0 to 0 takes 8 odds 1;hail 9 to 9 takes 8 odds 1;"
            + "family x at 0 0 need 10;family y at 9 0 need 10;").then("likely", 1, 0);
        Edge.tells(apart, 1, 1, "give", 1);
        Edge.tells(apart, 1, 16, "give", 0);
    }

    private static void firstOfSeveral() {
        Edge.says("of several the first by STRIP 0's FAMILY, then STRIP 1's, and so on.");
        // Nobody needs anything: all ways are alike.
        Story none = Story.of(strips(3) + "family x at 0 0 need 0;family y at 0 0 need 0;family z at 0 0 need 0;");
        ways(none.then("give", 0), 0, 0, 0);
        ways(none.then("give", 1), 0, 0, 0);
        // y needs one: the last STRIP goes to it, as that is the first way.
        Story second = Story.of(strips(3) + "family x at 0 0 need 0;family y at 0 0 need 1;");
        ways(second.then("give", 0), 0, 0, 1);
        Story third = Story.of(strips(3) + "family x at 0 0 need 0;family y at 0 0 need 1;family z at 0 0 need 1;");
        ways(third.then("give", 0), 0, 1, 2);
        Story all = Story.of(strips(3) + "family x at 0 0 need 1;family y at 0 0 need 1;family z at 0 0 need 1;");
        ways(all.then("give", 1), 0, 1, 2);
        // Only the very last of all ways feeds z.
        Story last = Story.of(strips(8) + "family x at 0 0 need 0;family y at 0 0 need 0;family z at 0 0 need 8;");
        Edge.tells(last, 0, 1, "give", 0);
        ways(last.then("give", 0), 2, 2, 2, 2, 2, 2, 2, 2);
        ways(last.then("give", 1), 2, 2, 2, 2, 2, 2, 2, 2);
        // Who holds what is no matter.
        ways(all.then("hold", 0, 2).then("hold", 1, 2).then("give", 0), 0, 1, 2);
    }

    private static void given() {
        Edge.says("The FAMILY of a STRIP by give() latest with STATUS 0 (6: there was none, asked first; 1: no such STRIP then).");
        Story two = twoAndBlight(1);
        for (long s : new long[] {0, -1, 2, MIN, MAX}) {
            Edge.refuses(Story.fresh(), 6, "given", s);
            Edge.refuses(two, 6, "given", s);
            Edge.refuses(two.then("give", 2).then("give", -1), 6, "given", s);
            Edge.refuses(village(9, 1).then("give", 0), 6, "given", s);
            Edge.refuses(village(1, 0).then("give", 0), 6, "given", s);
        }
        Story done = two.then("give", 0);
        Edge.gives(done, 0, "given", 0);
        Edge.gives(done, 1, "given", 1);
        Edge.refusesEach(done, 1, "given", new long[] {0}, 0, -1, 2, MIN, MAX);
        Edge.gives(done.then("give", 1), 0, "given", 1);
        Edge.gives(done.then("give", 2), 1, "given", 1);
        // Then means then: as many STRIPS as there were by that give().
        Edge.gives(done.then("village", 0), 1, "given", 1);
        Edge.gives(done.village(strips(5)), 1, "given", 1);
        Edge.refuses(done.village(strips(5)), 1, "given", 2);
        Edge.refuses(village(0, 1).then("give", 0), 1, "given", 0);
        Edge.gives(village(8, 1).then("give", 0), 0, "given", 7);
        Edge.refuses(village(8, 1).then("give", 0), 1, "given", 8);
    }

    private static Story holding(int gives, int need) {
        return Story.of("strip a at 0 0 gives " + gives + ";family x at 0 0 need " + need + " holds a;");
    }

    private static void narrow() {
        Story rich = Story.richWithTape();
        Edge.says("NARROW (1; 6: not by 6 times).");
        // The way takes 1: 39 are enough without harm, 19 are not.
        Edge.gives(rich, 0, "narrow", 0, 1);
        Edge.gives(rich, 1, "narrow", 0, 16);
        Edge.refusesEach(rich, 1, "narrow", new long[] {0, 8}, 0, -1, 2, MIN, MAX);
        Edge.refusesEach(rich, 1, "narrow", new long[] {0, 8}, 1, -1, 0, 17, MIN, MAX);
        Edge.refuses(Story.fresh(), 1, "narrow", 0, 1);
        Edge.refuses(holding(99, 1), 6, "narrow", 0, 16);
        Edge.refuses(holding(99, 1), 6, "narrow", 0, 1);
        Edge.refuses(holding(1, 0), 6, "narrow", 0, 1);
        Edge.refuses(holding(1, 0), 1, "narrow", 0, 0);
        Edge.refuses(holding(1, 0), 1, "narrow", 0, 17);
        Edge.gives(holding(99, 2), 6, "narrow", 0, 16);
    }

    private static void narrowHalves() {
        Edge.says("how often (0 to 6) all a FAMILY HOLDS must be halved (each STRIP's GIVES rounded down; NEED as it is)");
        // 99, 49, 24, 12, 6, 3, 1.
        int[][] rows = {{99, 0}, {50, 1}, {49, 2}, {25, 2}, {24, 3}, {13, 3}, {12, 4}, {7, 4}, {6, 5}, {4, 5}, {3, 6}, {2, 6}};
        for (int[] row : rows) {
            Edge.gives(holding(99, row[0]), Math.max(1, row[1]), "narrow", 0, 16);
        }
        Edge.gives(holding(98, 99), 0, "narrow", 0, 16);
        Edge.gives(holding(63, 1), 6, "narrow", 0, 16);
        Edge.refuses(holding(64, 1), 6, "narrow", 0, 16);
        Edge.gives(holding(1, 1), 1, "narrow", 0, 16);
        // Who holds nothing is HUNGRY at once; what is nobody's is not halved for it.
        Edge.gives(holding(99, 1).then("hold", 0, -1), 0, "narrow", 0, 16);
        // Each for itself: 3 and 3 become 1 and 1, though 6 would become 3.
        Story two = Story.of("strip a at 0 0 gives 3;strip b at 0 0 gives 3;family x at 0 0 need 3 holds a holds b;");
        Edge.gives(two, 1, "narrow", 0, 16);
        // The way is as long as ahead: 10 less 2 are not enough.
        Story far = Story.of("strip a at 10 0 gives 40;family x at 0 0 need 10 holds a;");
        Edge.gives(far, 2, "narrow", 0, 16);
        // Halved ahead of the harm: 15 become 7, of which 3 are left.
        Story harmed = Story.of("strip a at 0 0 gives 15;blight takes 4 odds 16;family x at 0 0 need 4 holds a;");
        Edge.gives(harmed, 1, "narrow", 0, 16);
        Edge.gives(harmed.then("narrow", 0, 16), 15, "strip", 0, 2);
    }

    private static void narrowOdds() {
        Edge.says("until it is HUNGRY by ODDS of so many sixteenths (1 to 16) or more; the least.");
        for (int odds = 0; odds <= 16; odds++) {
            // Two halvings make it HUNGRY in years of blight, three always.
            Story story = Story.of("strip a at 0 0 gives 40;blight takes 4 odds " + odds + ";family x at 0 0 need 10 holds a;");
            for (int of = 1; of <= 16; of += 5) {
                Edge.gives(story, odds >= of ? 2 : 3, "narrow", 0, of);
            }
            if (odds > 0) {
                Edge.gives(story, 2, "narrow", 0, odds);
            }
            if (odds < 16) {
                Edge.gives(story, 3, "narrow", 0, odds + 1);
            }
        }
        // 135 of 256 are more than 8 sixteenths, and less than 9.
        Story two = Story.of("strip a at 0 0 gives 40;blight takes 4 odds 5;blight takes 4 odds 5;family x at 0 0 need 10 holds a;");
        Edge.gives(two, 2, "narrow", 0, 8);
        Edge.gives(two, 3, "narrow", 0, 9);
        // 255 of 256 are not yet 16 sixteenths.
        Story nearly = two.then("likely", 0, 15).then("likely", 1, 15);
        Edge.gives(nearly, 2, "narrow", 0, 15);
        Edge.gives(nearly, 3, "narrow", 0, 16);
    }

    private static void together() {
        Edge.says("TOGETHER: the set of FAMILIES.");
        Edge.gives(Story.fresh(), 0, "together");
        Edge.gives(Story.richWithTape(), 0, "together");
        Edge.gives(village(3, 2), 0, "together");
        Edge.gives(Story.of(strips(3)), 0, "together");
        Edge.says("Sets of STRIPS, of FAMILIES: likewise.");
        // All four lose: each gets what is at another's home.
        StringBuilder text = new StringBuilder();
        for (int i = 0; i < 4; i++) {
            text.append("strip ").append((char) ('a' + i)).append(" at ").append(30 * i).append(" 0 gives 20;");
        }
        for (int i = 0; i < 4; i++) {
            text.append("family ").append((char) ('a' + i)).append(" at ").append(90 - 30 * i).append(" 0 need 0 holds ")
                .append((char) ('d' - i)).append(';');
        }
        Edge.gives(Story.of(text.toString()), 15, "together");
        Edge.gives(Story.of(text.toString()).then("let", 0, 1), 15, "together");
        // With two of them exchanged ahead, only the first and the last lose.
        Edge.gives(Story.of(text.toString()).then("hold", 1, 1).then("hold", 2, 2), 9, "together");
    }

    private static Story held(String strips, String x, String y) {
        return Story.of(strips + "family x at 0 0 need 0" + x + ";family y at 0 0 need 0" + y + ";");
    }

    private static void togetherInOrder() {
        Edge.says("all STRIPS that are somebody's, by X, then Y, then number, are dealt to the FAMILIES in order, to each one "
            + "behind the other as many as it HOLDS");
        // The one that x holds gives more; it loses when the other one comes first.
        Edge.gives(held("strip a at 1 0 gives 9;strip b at 0 9 gives 5;", " holds a", " holds b"), 1, "together");
        Edge.gives(held("strip a at 0 9 gives 9;strip b at 1 0 gives 5;", " holds a", " holds b"), 0, "together");
        Edge.gives(held("strip a at 0 1 gives 9;strip b at 0 0 gives 5;", " holds a", " holds b"), 1, "together");
        Edge.gives(held("strip a at 0 0 gives 9;strip b at 0 1 gives 5;", " holds a", " holds b"), 0, "together");
        Edge.gives(held("strip a at 0 0 gives 9;strip b at 0 0 gives 5;", " holds a", " holds b"), 0, "together");
        Edge.gives(held("strip a at 0 0 gives 5;strip b at 0 0 gives 9;", " holds b", " holds a"), 1, "together");
        // What is nobody's is not dealt, though it stands first.
        String three = "strip a at 0 0 gives 1;strip b at 1 0 gives 9;strip c at 2 0 gives 9;";
        Edge.gives(held(three, " holds b", " holds c"), 0, "together");
        Edge.gives(held(three, " holds b holds a", " holds c"), 0, "together");
        // As many as each holds: one who holds none gets none.
        Edge.gives(held(three, "", " holds b holds c"), 0, "together");
        Edge.gives(held(three, " holds c", " holds a holds b"), 1, "together");
        Edge.gives(held(three, " holds b holds c", " holds a"), 1, "together");
    }

    private static void togetherLess() {
        Edge.says("the set of FAMILIES whose WORTH is less then (nothing is changed).");
        for (int gives = 8; gives <= 10; gives++) {
            // x holds b, which gives 9, and gets a.
            Story story = held("strip a at 0 0 gives " + gives + ";strip b at 0 0 gives 9;", " holds b", " holds a");
            Edge.gives(story, gives < 9 ? 1 : gives > 9 ? 2 : 0, "together");
        }
    }
}
