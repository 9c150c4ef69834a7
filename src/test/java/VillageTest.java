/** Promises 9 to 18: the tape, the VILLAGE and its FAULTS, what is told of it, what is changed. */
public final class VillageTest {
    public static void main(String[] args) {
        feed();
        feedBytes();
        village();
        villageStays();
        goodTexts();
        faultsOfTokens();
        faultsAtACut();
        faultsOfNames();
        faultsOfNumbers();
        faultsOfTooMany();
        faultAnswers();
        many();
        strip();
        harm();
        harmFalls();
        family();
        hold();
        let();
        likely();
        Check.end();
    }

    private static void feed() {
        HailHill hill = new HailHill();
        for (int i = 1; i <= 30; i++) {
            Check.due("feed() no. " + i, hill.feed(0x20202020, 0x20202020, 0x20202020, 0x20202020, 0x20200a20), i * 20);
        }
        Check.due("feed() no. 31", hill.feed(0, 0, 0, 0, 0), -1);
        Check.refused("village(601)", hill, hill.village(601), 1);
        Check.took("village(600) of blanks", hill, hill.village(600), 0);
        Check.due("feed() on the tape emptied", hill.feed(0, 0, 0, 0, 0), 20);
    }

    private static void feedBytes() {
        HailHill hill = new HailHill();
        // "strip a at 7 8 gives 9;" with the highest byte of each int first.
        hill.feed(0x73747269, 0x70206120, 0x61742037, 0x20382067, 0x69766573);
        hill.feed(0x20393b00, 0, 0, 0, 0);
        Check.took("village() of bytes", hill, hill.village(23), 1);
        Check.took("X", hill, hill.strip(0, 0), 7);
        Check.took("Y", hill, hill.strip(0, 1), 8);
        Check.took("GIVES", hill, hill.strip(0, 2), 9);
        hill.feed(0x2020ff20, 0, 0, 0, 0);
        Check.refused("a byte of 255", hill, hill.village(4), 9);
        Check.due("its FAULT", hill.fault(0), 1);
        Check.due("its place", hill.fault(1), 2);
    }

    private static void village() {
        HailHill hill = new HailHill();
        String text = "strip a at 1 2 gives 3;strip b at 1 2 gives 3;family x at 0 0 need 0 holds a;";
        Check.feed(hill, text);
        Check.refused("village(-1)", hill, hill.village(-1), 1);
        Check.refused("village() of more than the tape has", hill, hill.village(81), 1);
        Check.took("village() of the first part", hill, hill.village(23), 1);
        Check.took("many(0)", hill, hill.many(0), 1);
        Check.refused("the tape is empty then", hill, hill.village(1), 1);
        Check.took("village() of all", hill, Check.village(hill, text), 2);
        Check.took("it HOLDS", hill, hill.strip(0, 4), 0);
        Check.took("another in its place", hill, Check.village(hill, "strip c at 4 5 gives 6;"), 1);
        Check.took("many(2) then", hill, hill.many(2), 0);
        Check.refused("nobody HOLDS then", hill, hill.strip(0, 4), 6);
        Check.took("village(0)", hill, hill.village(0), 0);
        Check.took("many(0) then", hill, hill.many(0), 0);
    }

    private static void villageStays() {
        HailHill hill = Check.hill("strip a at 10 0 gives 50;family x at 0 0 need 60 holds a;");
        hill.let(0, 5);
        hill.let(1, 2);
        hill.mark();
        Check.refused("a FAULT", hill, Check.village(hill, "strip a at 1 1 gives 1;;"), 9);
        Check.took("X as it was", hill, hill.strip(0, 0), 10);
        Check.took("held as it was", hill, hill.strip(0, 4), 0);
        Check.refused("the tape is empty behind a FAULT", hill, hill.village(1), 1);
        Check.took("another", hill, Check.village(hill, "strip b at 5 0 gives 50;family y at 0 0 need 60;"), 1);
        Check.took("PACE stays", hill, hill.net(0, 1, 0), 48);
        hill.worth(0, 1);
        Check.fraction("HUNGER stays", hill, 24, 1);
        Check.took("MARKS stay", hill, hill.back(), 0);
        Check.took("X of the MARK", hill, hill.strip(0, 0), 10);
    }

    private static void good(String text, int strips, int harms, int families) {
        HailHill hill = new HailHill();
        Check.took("village: " + text, hill, Check.village(hill, text), strips);
        Check.due("fault(0): " + text, hill.fault(0), 0);
        Check.due("fault(1): " + text, hill.fault(1), -1);
        Check.took("STRIPS: " + text, hill, hill.many(0), strips);
        Check.took("HARMS: " + text, hill, hill.many(1), harms);
        Check.took("FAMILIES: " + text, hill, hill.many(2), families);
    }

    private static void goodTexts() {
        good("", 0, 0, 0);
        good(" \n \n", 0, 0, 0);
        good("\n strip\na  at 0 99\n gives 1 ; ", 1, 0, 0);
        good("strip a at00 07gives 99soil3;", 1, 0, 0);
        good("strip abcdefgh at 1 2 gives 3;strip abcdefg at 1 2 gives 3;", 2, 0, 0);
        good("hail 5 to 5 takes 0 odds 0;hail 0 to 99 takes 8 odds 16;", 0, 2, 0);
        good("hail 99 to 99 takes 1 odds 1;", 0, 1, 0);
        good("frost 0 takes 1 odds 1;frost 99 takes 1 odds 1;", 0, 2, 0);
        good("dry 1 takes 1 odds 1;dry 3 takes 1 odds 1;blight takes 1 odds 1;", 0, 3, 0);
        good("family x at 0 0 need 0;family y at 99 99 need 99;", 0, 0, 2);
        good("strip a at 1 1 gives 1;family a at 1 1 need 1 holds a;", 1, 0, 1);
        good("family x at 1 1 need 1;strip a at 1 1 gives 1;family y at 1 1 need 1 holds a;", 1, 0, 2);
        good("strip stripe at 1 1 gives 1;strip a at 1 1 gives 1;strip ats at 1 1 gives 1;", 3, 0, 0);
    }

    private static void fault(String text, int kind, int place) {
        HailHill hill = new HailHill();
        Check.refused("village: " + text, hill, Check.village(hill, text), 9);
        Check.due("fault(0): " + text, hill.fault(0), kind);
        Check.due("fault(1): " + text, hill.fault(1), place);
    }

    private static void faultsOfTokens() {
        fault("#", 1, 0);
        fault("Strip", 1, 0);
        fault("strip a\tat", 1, 7);
        fault("strip a at 1 2 gives 3;\r", 1, 23);
        fault("strip a at 123 2", 1, 11);
        fault("strip a at 12 0000001", 1, 14);
        fault("strip 99999999999999999999", 1, 6);
        fault("strip a at 1 -2", 1, 13);
        fault("strip a,b", 1, 7);
        fault("12", 2, 0);
        fault(";", 2, 0);
        fault("a", 2, 0);
        fault("at", 2, 0);
        fault("abcdefghijklmnop", 2, 0);
        fault("strip", 2, 5);
        fault("strip a   ", 2, 10);
        fault("strip a at 1 2 gives 3", 2, 22);
        fault("strip 5", 2, 6);
        fault("strip ;", 2, 6);
        fault("strip abcdefghi at 1 2 gives 3;", 2, 6);
        fault("strip a to", 2, 8);
        fault("strip a at b", 2, 11);
        fault("strip a at 1;", 2, 12);
        fault("strip a at 1 2 soil 3", 2, 15);
        fault("strip a at 1 2 gives 3 soil;", 2, 27);
        fault("strip a at 1 2 gives 3 soil 1 soil 1;", 2, 30);
        fault("hail 1 2", 2, 7);
        fault("hail 1 to 2 odds", 2, 12);
        fault("frost takes", 2, 6);
        fault("dry 1 to", 2, 6);
        fault("blight 1", 2, 7);
        fault("blight takes 1 odds 1 2", 2, 22);
        fault("family x at 1 1 need 1 holds;", 2, 28);
        fault("family x at 1 1 need 1 holds 7;", 2, 29);
        fault("family x at 1 1 holds", 2, 16);
        fault("family x at 1 holds holds holds", 2, 14);
        fault("strip a at 1 1 gives 1;family x at 1 1 need 1 holds abcdefghi;", 2, 52);
        for (String word : Model.RESERVED) {
            fault("strip " + word + " at 1 1 gives 1;", 2, 6);
            fault("family " + word + " at 1 1 need 1;", 2, 7);
        }
    }

    private static void cutFault(String text, int n, int kind, int place) {
        HailHill hill = new HailHill();
        Check.feed(hill, text);
        Check.refused("cut: " + text, hill, hill.village(n), 9);
        Check.due("fault(0), cut: " + text, hill.fault(0), kind);
        Check.due("fault(1), cut: " + text, hill.fault(1), place);
    }

    private static void faultsAtACut() {
        cutFault("strip ab at 1 1 gives 1;", 7, 2, 7);
        cutFault("strip a at 12 1 gives 1;", 12, 2, 12);
        cutFault("strip a at 123 1 gives 1;", 13, 2, 13);
        cutFault("strip a at 1 1 gives 1;", 22, 2, 22);
        cutFault("strip a at 1 1 gives 1;", 3, 2, 0);
        char[] full = new char[600];
        java.util.Arrays.fill(full, ' ');
        String blanks = new String(full, 0, 599);
        cutFault(blanks + "a", 600, 2, 599);
        cutFault(blanks + "7", 600, 2, 599);
        cutFault(blanks + ";", 600, 2, 599);
        cutFault(blanks + "#", 600, 1, 599);
    }

    private static void faultsOfNames() {
        fault("strip a at 1 1 gives 1;strip a at 1 1 gives 1;", 3, 29);
        fault("strip ab at 1 1 gives 1;strip a at 1 1 gives 1;strip ab", 3, 53);
        fault("strip abcdefgh at 1 1 gives 1;strip abcdefgh", 3, 36);
        fault("family x at 1 1 need 1;family x", 3, 30);
        fault("family x at 1 1 need 1 holds a;strip a at 1 1 gives 1;", 3, 29);
        fault("strip a at 1 1 gives 1;family x at 1 1 need 1 holds x;", 3, 52);
        fault("strip a at 1 1 gives 1;family x at 1 1 need 1 holds a holds a;", 6, 60);
        fault("strip a at 1 1 gives 1;family x at 1 1 need 1 holds a;family y at 1 1 need 1 holds a;", 6, 83);
    }

    private static void faultsOfNumbers() {
        fault("strip a at 1 1 gives 0;", 4, 21);
        fault("strip a at 1 1 gives 00;", 4, 21);
        fault("strip a at 1 1 gives 1 soil 0;", 4, 28);
        fault("strip a at 1 1 gives 1 soil 4;", 4, 28);
        fault("hail 5 to 4 takes 9 odds 17;", 4, 10);
        fault("dry 0 takes 1 odds 1;", 4, 4);
        fault("dry 4 takes 1 odds 1;", 4, 4);
        fault("blight takes 9 odds 1;", 4, 13);
        fault("blight takes 8 odds 17;", 4, 20);
        fault("blight takes 9 #", 4, 13);
    }

    private static String repeated(String part, int times) {
        StringBuilder text = new StringBuilder();
        for (int i = 0; i < times; i++) {
            text.append(part.replace('?', (char) ('a' + i)));
        }
        return text.toString();
    }

    private static void faultsOfTooMany() {
        String strips = repeated("strip ? at 1 1 gives 1;", 10);
        good(strips, 10, 0, 0);
        fault(strips + "strip", 5, strips.length());
        fault(strips + " strip a #", 5, strips.length() + 1);
        fault(strips + "# strip", 1, strips.length());
        String harms = repeated("blight takes 1 odds 1;", 6);
        good(harms, 0, 6, 0);
        fault(harms + "blight takes", 5, harms.length());
        fault(harms + "hail", 5, harms.length());
        fault(harms + "frost 1", 5, harms.length());
        fault(harms + "dry 9", 5, harms.length());
        String families = repeated("family ? at 1 1 need 1;", 4);
        good(families, 0, 0, 4);
        fault(families + "family a", 5, families.length());
        fault(strips + harms + "strip", 5, strips.length() + harms.length());
    }

    private static void faultAnswers() {
        HailHill hill = new HailHill();
        Check.village(hill, "strip a at 1 1 gives 0;");
        Check.due("fault(2)", hill.fault(2), -1);
        Check.due("fault(-1)", hill.fault(-1), -1);
        hill.village(50);
        Check.due("status of too many bytes", hill.status(), 1);
        Check.due("fault(0) of the latest with 0 or 9", hill.fault(0), 4);
        Check.due("fault(1) of the latest with 0 or 9", hill.fault(1), 21);
        hill.village(0);
        Check.due("fault(0) without one", hill.fault(0), 0);
        Check.due("fault(1) without one", hill.fault(1), -1);
    }

    private static HailHill sample() {
        return Check.hill("strip a at 1 2 gives 3;strip b at 4 5 gives 6 soil 2;strip c at 7 8 gives 9 soil 3;"
            + "hail 4 to 7 takes 5 odds 6;frost 8 takes 2 odds 3;dry 3 takes 0 odds 16;blight takes 8 odds 0;"
            + "family x at 11 12 need 13 holds c holds a;family y at 14 15 need 16;");
    }

    private static void many() {
        HailHill hill = sample();
        Check.took("many(0)", hill, hill.many(0), 3);
        Check.took("many(1)", hill, hill.many(1), 4);
        Check.took("many(2)", hill, hill.many(2), 2);
        Check.refused("many(3)", hill, hill.many(3), 1);
        Check.refused("many(-1)", hill, hill.many(-1), 1);
    }

    private static void strip() {
        HailHill hill = sample();
        int[][] want = {{1, 2, 3, 1}, {4, 5, 6, 2}, {7, 8, 9, 3}};
        for (int s = 0; s < 3; s++) {
            for (int what = 0; what < 4; what++) {
                Check.took("strip(" + s + ", " + what + ")", hill, hill.strip(s, what), want[s][what]);
            }
        }
        Check.took("strip(0, 4)", hill, hill.strip(0, 4), 0);
        Check.refused("strip(1, 4)", hill, hill.strip(1, 4), 6);
        Check.took("strip(2, 4)", hill, hill.strip(2, 4), 0);
        Check.refused("strip(3, 0)", hill, hill.strip(3, 0), 1);
        Check.refused("strip(-1, 0)", hill, hill.strip(-1, 0), 1);
        Check.refused("strip(0, 5)", hill, hill.strip(0, 5), 1);
        Check.refused("strip(0, -1)", hill, hill.strip(0, -1), 1);
        Check.refused("strip(9, 4)", hill, hill.strip(9, 4), 1);
    }

    private static void harm() {
        HailHill hill = sample();
        int[][] want = {{0, 5, 6, 6}, {1, 2, 3, 3}, {2, 0, 16, 4}, {3, 8, 0, 7}};
        for (int h = 0; h < 4; h++) {
            for (int what = 0; what < 4; what++) {
                Check.took("harm(" + h + ", " + what + ")", hill, hill.harm(h, what), want[h][what]);
            }
        }
        Check.refused("harm(4, 0)", hill, hill.harm(4, 0), 1);
        Check.refused("harm(-1, 0)", hill, hill.harm(-1, 0), 1);
        Check.refused("harm(0, 4)", hill, hill.harm(0, 4), 1);
        Check.refused("harm(0, -1)", hill, hill.harm(0, -1), 1);
    }

    private static void harmFalls() {
        // The HARMS stand ahead of the STRIPS, and fall on them all the same.
        HailHill hill = Check.hill("hail 5 to 7 takes 1 odds 1;frost 5 takes 1 odds 1;dry 1 takes 1 odds 1;"
            + "blight takes 1 odds 1;frost 0 takes 1 odds 1;strip a at 4 4 gives 1;strip b at 5 5 gives 1 soil 1;"
            + "strip c at 7 0 gives 1 soil 2;strip d at 8 6 gives 1 soil 3;");
        Check.took("hail 5 to 7", hill, hill.harm(0, 3), 6);
        Check.took("frost 5", hill, hill.harm(1, 3), 5);
        Check.took("dry 1", hill, hill.harm(2, 3), 3);
        Check.took("blight", hill, hill.harm(3, 3), 15);
        Check.took("frost 0", hill, hill.harm(4, 3), 0);
    }

    private static void family() {
        HailHill hill = sample();
        int[][] want = {{11, 12, 13, 5}, {14, 15, 16, 0}};
        for (int f = 0; f < 2; f++) {
            for (int what = 0; what < 4; what++) {
                Check.took("family(" + f + ", " + what + ")", hill, hill.family(f, what), want[f][what]);
            }
        }
        Check.refused("family(2, 0)", hill, hill.family(2, 0), 1);
        Check.refused("family(-1, 0)", hill, hill.family(-1, 0), 1);
        Check.refused("family(0, 4)", hill, hill.family(0, 4), 1);
        Check.refused("family(0, -1)", hill, hill.family(0, -1), 1);
    }

    private static void hold() {
        HailHill hill = sample();
        Check.took("hold(1, 1)", hill, hill.hold(1, 1));
        Check.took("its FAMILY", hill, hill.strip(1, 4), 1);
        Check.took("what that HOLDS", hill, hill.family(1, 3), 2);
        Check.refused("hold(1, 1) again", hill, hill.hold(1, 1), 7);
        Check.took("hold(0, 1), another's", hill, hill.hold(0, 1));
        Check.took("what the other HOLDS", hill, hill.family(0, 3), 4);
        Check.took("hold(0, NONE)", hill, hill.hold(0, -1));
        Check.refused("hold(0, NONE) again", hill, hill.hold(0, -1), 7);
        Check.refused("hold(3, 0)", hill, hill.hold(3, 0), 1);
        Check.refused("hold(-1, 0)", hill, hill.hold(-1, 0), 1);
        Check.refused("hold(0, 2)", hill, hill.hold(0, 2), 1);
        Check.refused("hold(0, -2)", hill, hill.hold(0, -2), 1);
        Check.took("what is left", hill, hill.family(1, 3), 2);
    }

    private static void let() {
        HailHill hill = Check.hill("strip a at 50 0 gives 99;family x at 0 0 need 99;");
        Check.took("let(0, 1)", hill, hill.let(0, 1));
        Check.took("net() by PACE 1", hill, hill.net(0, 1, 0), 0);
        Check.took("let(0, 99)", hill, hill.let(0, 99));
        Check.took("net() by PACE 99", hill, hill.net(0, 1, 0), 98);
        Check.refused("let(0, 0)", hill, hill.let(0, 0), 1);
        Check.refused("let(0, 100)", hill, hill.let(0, 100), 1);
        Check.took("net() behind refused ones", hill, hill.net(0, 1, 0), 98);
        Check.took("let(1, 0)", hill, hill.let(1, 0));
        hill.worth(0, 1);
        Check.fraction("worth() by HUNGER 0", hill, 98, 1);
        Check.took("let(1, 99)", hill, hill.let(1, 99));
        hill.worth(0, 1);
        Check.fraction("worth() by HUNGER 99", hill, -1, 1);
        Check.refused("let(1, -1)", hill, hill.let(1, -1), 1);
        Check.refused("let(1, 100)", hill, hill.let(1, 100), 1);
        Check.refused("let(2, 5)", hill, hill.let(2, 5), 1);
        Check.refused("let(-1, 5)", hill, hill.let(-1, 5), 1);
        hill.worth(0, 1);
        Check.fraction("worth() behind refused ones", hill, -1, 1);
    }

    private static void likely() {
        HailHill hill = sample();
        Check.took("likely(0, 0)", hill, hill.likely(0, 0));
        Check.took("odds of 0", hill, hill.harm(0, 2), 0);
        Check.took("likely(0, 16)", hill, hill.likely(0, 16));
        Check.took("likely(0, 16) again", hill, hill.likely(0, 16));
        Check.took("odds of 16", hill, hill.harm(0, 2), 16);
        Check.took("odds of another", hill, hill.harm(1, 2), 3);
        Check.took("weight() then", hill, hill.weight(5), 16 * 13 * 16 * 16);
        Check.refused("likely(0, 17)", hill, hill.likely(0, 17), 1);
        Check.refused("likely(0, -1)", hill, hill.likely(0, -1), 1);
        Check.refused("likely(4, 1)", hill, hill.likely(4, 1), 1);
        Check.refused("likely(-1, 1)", hill, hill.likely(-1, 1), 1);
        Check.took("odds behind refused ones", hill, hill.harm(0, 2), 16);
    }
}
