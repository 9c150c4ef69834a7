/** What the tests share: counting wrong answers, and bringing a text to the tape. */
final class Check {
    private static int asked = 0;
    private static int wrong = 0;

    private Check() {
    }

    static void due(String what, long got, long want) {
        asked++;
        if (got != want) {
            wrong++;
            System.out.println(what + " answered " + got + ", due is " + want);
        }
    }

    static void due(String what, boolean got, boolean want) {
        due(what, got ? 1 : 0, want ? 1 : 0);
    }

    /** A call that was taken: its answer, and STATUS 0. */
    static void took(String what, HailHill hill, long got, long want) {
        due(what, got, want);
        due(what + ", its status", hill.status(), 0);
    }

    static void took(String what, HailHill hill, boolean got) {
        took(what, hill, got ? 1 : 0, 1);
    }

    /** A call that was refused: NONE, and the STATUS told. */
    static void refused(String what, HailHill hill, long got, int status) {
        due(what, got, HailHill.NONE);
        due(what + ", its status", hill.status(), status);
    }

    static void refused(String what, HailHill hill, boolean got, int status) {
        due(what, got, false);
        due(what + ", its status", hill.status(), status);
    }

    static void fraction(String what, HailHill hill, long top, long bottom) {
        due(what + ", its top", hill.top(), top);
        due(what + ", its bottom", hill.bottom(), bottom);
    }

    /** Feeds as many ints as the text needs, with 0 behind its end. */
    static void feed(HailHill hill, String text) {
        for (int from = 0; from < text.length(); from += 20) {
            int[] five = new int[5];
            for (int i = 0; i < 20; i++) {
                int c = from + i < text.length() ? text.charAt(from + i) & 255 : 0;
                five[i / 4] = five[i / 4] << 8 | c;
            }
            hill.feed(five[0], five[1], five[2], five[3], five[4]);
        }
    }

    static int village(HailHill hill, String text) {
        feed(hill, text);
        return hill.village(text.length());
    }

    static HailHill hill(String text) {
        HailHill hill = new HailHill();
        village(hill, text);
        due("status of village(): " + text, hill.status(), 0);
        return hill;
    }

    static void end() {
        System.out.println(asked + " answers looked at, " + wrong + " wrong");
        if (wrong != 0 || asked == 0) {
            System.exit(1);
        }
    }
}
