import java.util.ArrayList;
import java.util.Arrays;
import java.util.List;

/** Promises 9 to 11: the tape, the text of a VILLAGE and each of its FAULTS. */
final class TextEdges {
    private static final String NAMES = "abcdefghijk";

    private TextEdges() {
    }

    static void run() {
        feed();
        feedBytes();
        village();
        villageOfAllBytes();
        oldOneStays();
        takenInPlace();
        fault();
        everyByte();
        everyByteBetween();
        tokensAsLongAsTheyGo();
        everyPlaceOfAPart();
        optionalWords();
        names();
        namesTold();
        numbers();
        hailSpan();
        digits();
        tooMany();
        heldAlready();
        firstAlongTheText();
        leastKind();
        atTheEnd();
    }

    private static long[] blanks() {
        return new long[] {0x20202020, 0x20202020, 0x20202020, 0x20202020, 0x20202020};
    }

    private static String blanks(int count) {
        return " ".repeat(count);
    }

    private static void feed() {
        Edge.says("Twenty bytes come behind those on the tape, the highest of each int first: how many it has; NONE if "
            + "there would be more than 600.");
        Story tape = Story.rich();
        for (int feeds = 1; feeds <= 30; feeds++) {
            if (feeds == 1 || feeds >= 29) {
                Edge.gives(tape, 20 * feeds, "feed", blanks());
            }
            tape = tape.then("feed", blanks());
        }
        Edge.refuses(tape, 0, "feed", blanks());
        Edge.refuses(tape.then("feed", blanks()), 0, "feed", 0, 0, 0, 0, 0);
        Edge.gives(tape.then("feed", blanks()), 0, "village", 600);
        Edge.gives(tape.then("village", 600), 20, "feed", blanks());
        // feed() has no STATUS, whether it is taken or not.
        Edge.refuses(tape.then("many", 9), 1, "feed", blanks());
        HailHill hill = Story.fresh().then("many", 9).make();
        hill.feed(0, 0, 0, 0, 0);
        Check.due("status() behind feed()", hill.status(), 1);
    }

    private static void feedBytes() {
        Edge.says("the highest of each int first");
        // "strip b at 12 34 gives 56 soil 3;" in two calls.
        Story told = Story.rich().then("feed", 0x73747269, 0x70206220, 0x61742031, 0x32203334, 0x20676976)
            .then("feed", 0x65732035, 0x3620736f, 0x696c2033, 0x3b202020, 0x20202020);
        Edge.gives(told, 1, "village", 33);
        Edge.gives(told.then("village", 33), 12, "strip", 0, 0);
        Edge.gives(told.then("village", 33), 34, "strip", 0, 1);
        Edge.gives(told.then("village", 33), 56, "strip", 0, 2);
        Edge.gives(told.then("village", 33), 3, "strip", 0, 3);
        // One byte in each of the twenty places, the highest bit of an int among them.
        for (int place = 0; place < 20; place++) {
            long[] five = blanks();
            int shift = 24 - place % 4 * 8;
            five[place / 4] = (int) five[place / 4] & ~(255 << shift) | 0xE9 << shift;
            Story odd = Story.rich().then("feed", five);
            Edge.refuses(odd, 9, "village", 20);
            Edge.gives(odd.then("village", 20).then("many", 0), place, "fault", 1);
        }
    }

    private static void village() {
        Edge.says("The first n bytes of the tape (which is empty then) are the VILLAGE: how many STRIPS (1: n below 0, or "
            + "more than the tape has, too; 9: the old one stays).");
        Story tape = Story.rich().fed("strip a at 1 1 gives 1;strip b at 1 1 gives 1;");
        Edge.refuses(tape, 1, "village", -1);
        Edge.refuses(tape, 1, "village", 61);
        Edge.refuses(tape, 1, "village", Integer.MAX_VALUE);
        Edge.refuses(tape, 1, "village", Integer.MIN_VALUE);
        Edge.gives(tape, 0, "village", 0);
        Edge.gives(tape, 1, "village", 23);
        Edge.gives(tape, 2, "village", 46);
        Edge.refuses(tape, 9, "village", 47);
        Edge.refuses(tape, 9, "village", 60);
        Edge.refuses(tape, 9, "village", 45);
        Edge.refuses(tape, 9, "village", 24);
        // The tape is empty behind 0 and 9, and as it was behind 1.
        for (int n : new int[] {0, 23, 46, 24, 60}) {
            Edge.refuses(tape.then("village", n), 1, "village", 1);
            Edge.gives(tape.then("village", n).then("many", 0), 20, "feed", 0, 0, 0, 0, 0);
        }
        Edge.gives(tape.then("village", 61), 2, "village", 46);
        Edge.gives(tape.then("village", -1).then("many", 0), 80, "feed", 0, 0, 0, 0, 0);
        for (int strips = 0; strips <= 10; strips += 5) {
            String text = strips(strips);
            Edge.gives(Story.rich().fed(text), strips, "village", text.length());
        }
    }

    private static String strips(int count) {
        StringBuilder text = new StringBuilder();
        for (int i = 0; i < count; i++) {
            text.append("strip ").append(NAMES.charAt(i)).append(" at 1 1 gives 1;");
        }
        return text.toString();
    }

    private static void villageOfAllBytes() {
        Edge.says("A VILLAGE is a TEXT of at most 600 bytes.");
        String part = "strip a at 1 2 gives 3;";
        Story behind = Story.rich().fed(blanks(600 - part.length()) + part);
        Edge.gives(behind, 1, "village", 600);
        Edge.refuses(behind, 9, "village", 599);
        Edge.gives(behind.then("village", 599).then("many", 0), 599, "fault", 1);
        Edge.refuses(behind, 1, "village", 601);
        Edge.gives(Story.rich().fed(part + blanks(600 - part.length())), 1, "village", 600);
        // Some 598 bytes with as many of all as there may be.
        StringBuilder most = new StringBuilder();
        for (int i = 0; i < 10; i++) {
            most.append("strip ").append(NAMES.charAt(i)).append(" at 1 1 gives 1;");
        }
        for (int i = 0; i < 6; i++) {
            most.append("blight takes 1 odds 1;");
        }
        for (int i = 0; i < 4; i++) {
            most.append("family ").append(NAMES.charAt(i)).append(" at 1 1 need 1 holds ").append(NAMES.charAt(i));
            most.append(';');
        }
        Story all = Story.rich().fed(most.toString());
        Edge.gives(all, 10, "village", most.length());
        Edge.gives(all.then("village", most.length()), 10, "many", 0);
        Edge.gives(all.then("village", most.length()), 6, "many", 1);
        Edge.gives(all.then("village", most.length()), 4, "many", 2);
        Edge.gives(all.then("village", most.length()), 3, "strip", 3, 4);
    }

    private static void oldOneStays() {
        Edge.says("With another STATUS than 0 a call gives NONE, or false, and changes nothing else (but village() with 9 "
            + "the tape, and what fault() tells).");
        // Each FAULT comes late, behind STRIPS, HARMS and holdings that must not come through.
        String ahead = "strip a at 7 7 gives 7;strip c at 8 8 gives 8 soil 2;blight takes 7 odds 7;"
            + "family x at 5 5 need 5 holds c;";
        String[] late = {"#", "at", "strip a", "frost 1 takes 9", "family y at 1 1 need 1 holds c", "strip"};
        int[] kinds = {1, 2, 3, 4, 6, 2};
        for (int i = 0; i < late.length; i++) {
            Story told = Story.rich().fed(ahead + late[i]);
            int n = ahead.length() + late[i].length();
            Edge.refuses(told, 9, "village", n);
            Edge.gives(told.then("village", n).then("many", 0), kinds[i], "fault", 0);
        }
    }

    private static void takenInPlace() {
        Edge.says("A VILLAGE that is taken is there in place of that ahead (also of who holds what).");
        String text = "strip a at 30 0 gives 60;family x at 0 0 need 60;";
        Story taken = Story.rich().village(text);
        Edge.gives(taken, 1, "many", 0);
        Edge.gives(taken, 0, "many", 1);
        Edge.gives(taken, 1, "many", 2);
        Edge.refuses(taken, 6, "strip", 0, 4);
        Edge.gives(taken, 0, "family", 0, 3);
        Edge.gives(taken, 1, "weight", 0);
        Edge.refuses(taken, 1, "weight", 1);
        // PACE 6 and HUNGER 3 are no part of a VILLAGE.
        Edge.gives(taken, 50, "net", 0, 1, 0);
        Edge.tells(taken, 20, 1, "worth", 0, 1);
        Edge.gives(taken, 1, "back");
        Edge.gives(taken.then("back"), 3, "many", 0);
        Edge.gives(taken.then("back"), 0, "strip", 2, 4);
    }

    private static void fault() {
        Edge.says("Of the latest village() with STATUS 0 or 9, what 0: the FAULT (0 without one), 1: its place (NONE "
            + "without). NONE for others, and ahead of any.");
        long[] others = {-1, 2, Integer.MIN_VALUE, Integer.MAX_VALUE};
        Story fresh = Story.fresh();
        Story good = fresh.village("strip a at 1 1 gives 1;");
        Story bad = good.village("strip a at 1 1 gives 0;").then("many", 0);
        for (Story story : Arrays.asList(fresh, good, bad)) {
            for (long what : others) {
                Edge.gives(story, -1, "fault", what);
            }
        }
        told(fresh, -1, -1);
        told(good, 0, -1);
        told(bad, 4, 21);
        // With STATUS 1 there is no other one to tell of.
        told(fresh.then("village", 1).then("many", 0), -1, -1);
        told(bad.then("village", -1).then("many", 0), 4, 21);
        told(bad.then("village", 1).then("many", 0), 4, 21);
        told(bad.then("village", 0), 0, -1);
        told(good.village("#").then("many", 0), 1, 0);
        told(bad.then("mark").then("back"), 4, 21);
    }

    private static void told(Story story, int kind, int place) {
        Edge.gives(story, kind, "fault", 0);
        Edge.gives(story, place, "fault", 1);
    }

    private static void good(String text, int strips) {
        HailHill hill = Story.rich().make();
        Check.took("village: " + text, hill, Check.village(hill, text), strips);
        Check.due("fault(0): " + text, hill.fault(0), 0);
        Check.due("fault(1): " + text, hill.fault(1), -1);
        Check.took("STRIPS: " + text, hill, hill.many(0), strips);
    }

    /** The FAULT that is due, and that the old VILLAGE stays. */
    private static void bad(String text, int kind, int place) {
        HailHill hill = Story.rich().make();
        Check.refused("village: " + text, hill, Check.village(hill, text), 9);
        Check.due("fault(0): " + text, hill.fault(0), kind);
        Check.due("fault(1): " + text, hill.fault(1), place);
        Check.took("STRIPS stay: " + text, hill, hill.many(0), 3);
        Check.took("HARMS stay: " + text, hill, hill.many(1), 2);
        Check.took("FAMILIES stay: " + text, hill, hill.many(2), 2);
        Check.took("it HOLDS as ahead: " + text, hill, hill.family(0, 3), 1);
    }

    private static boolean isLetter(int c) {
        return c >= 'a' && c <= 'z';
    }

    private static boolean isDigit(int c) {
        return c >= '0' && c <= '9';
    }

    private static void everyByte() {
        Edge.says("between them blanks (10, 32): WORDS (small letters), NUMBERS (1 or 2 digits), the SIGN ;");
        for (int c = 0; c <= 255; c++) {
            String text = "" + (char) c;
            if (c == 10 || c == 32) {
                good(text, 0);
            } else {
                bad(text, isLetter(c) || isDigit(c) || c == ';' ? 2 : 1, 0);
            }
        }
    }

    private static void everyByteBetween() {
        Edge.says("1 no TOKEN begins so (a NUMBER of 3 digits and more: at its first).");
        String ahead = "strip a at 1 2 gives 3";
        for (int c = 0; c <= 255; c++) {
            String text = ahead + (char) c + ";";
            if (c == 10 || c == 32 || isDigit(c)) {
                good(text, 1);
            } else if (c == ';') {
                bad(text, 2, 23);
            } else {
                bad(text, isLetter(c) ? 2 : 1, 22);
            }
        }
    }

    private static void tokensAsLongAsTheyGo() {
        Edge.says("TOKENS, as long as they go, between them blanks (10, 32)");
        bad("stripa at 1 1 gives 1;", 2, 0);
        bad("strip aat 1 1 gives 1;", 2, 10);
        bad("strip a at 1 1 gives1 1;", 2, 22);
        bad("strip a at 11 gives 1;", 2, 14);
        bad("str ip a at 1 1 gives 1;", 2, 0);
        bad("strip a b at 1 1 gives 1;", 2, 8);
        bad("strip a at 1 1 gives 1 0;", 2, 23);
        bad("strip a at 1 1 gives 1;;", 2, 23);
        good("strip\na\nat\n1\n1\ngives\n1\n;\n", 1);
        good("  strip  a  at  1  1  gives  1  ;  ", 1);
        good("strip a at 1 1 gives 1;strip b at 1 1 gives 1;", 2);
        // Where two TOKENS can't grow together, no blank is needed.
        good("strip a at1 1gives1soil1;", 1);
    }

    /** Each TOKEN of each PART becomes one that can't stand there, or no TOKEN, or the text ends ahead of it. */
    private static void everyPlaceOfAPart() {
        Edge.says("2 it can't stand there (the end: the text's length; also a WORD of 9 letters and more where a NAME must "
            + "stand).");
        String ahead = "strip p at 1 1 gives 1; strip q at 1 1 gives 1; ";
        String[] parts = {"strip a at 1 2 gives 3 ;", "strip a at 1 2 gives 3 soil 1 ;", "hail 1 to 2 takes 3 odds 4 ;",
            "frost 1 takes 2 odds 3 ;", "dry 1 takes 2 odds 3 ;", "blight takes 1 odds 2 ;",
            "family x at 1 2 need 3 ;", "family x at 1 2 need 3 holds p holds q ;"};
        for (String part : parts) {
            List<String> tokens = Arrays.asList(part.split(" "));
            good(ahead + part, tokens.get(0).equals("strip") ? 3 : 2);
            for (int i = 0; i < tokens.size(); i++) {
                spoilAt(ahead, tokens, i);
            }
        }
    }

    private static void spoilAt(String ahead, List<String> tokens, int i) {
        List<String> others = new ArrayList<>(Model.RESERVED);
        others.addAll(Arrays.asList("7", ";", "zz", "abcdefghi", "#", "100", "A", ""));
        String start = ahead + (i == 0 ? "" : String.join(" ", tokens.subList(0, i)) + " ");
        for (String other : others) {
            if (!maystand(tokens, i, other)) {
                boolean isToken = !other.matches("#|100|A");
                String rest = other.isEmpty() ? "" : other + " " + String.join(" ", tokens.subList(i + 1, tokens.size()));
                bad(start + rest, isToken ? 2 : 1, start.length());
            }
        }
    }

    private static boolean maystand(List<String> tokens, int i, String other) {
        String old = tokens.get(i);
        boolean name = i > 0 && Arrays.asList("strip", "family", "holds").contains(tokens.get(i - 1));
        if (name) {
            return other.equals("zz");
        }
        if (old.matches("[0-9]+")) {
            return other.equals("7");
        }
        boolean begins = i == 0 && Arrays.asList("strip", "family", "hail", "frost", "dry", "blight").contains(other);
        boolean ends = i > 0 && tokens.get(i - 1).equals("3") && tokens.get(0).equals("strip") && other.equals("soil");
        boolean family = tokens.get(0).equals("family") && i > 5;
        boolean more = family && (old.equals(";") || old.equals("holds")) && (other.equals("holds") || other.equals(";"));
        boolean nothing = i == 0 && other.isEmpty() || old.equals("soil") && other.equals(";");
        return old.equals(other) || begins || ends || more || nothing;
    }

    private static void optionalWords() {
        Edge.says("({ } any number of times, [ ] perhaps.)");
        good("", 0);
        good("strip a at 1 1 gives 1;", 1);
        good("strip a at 1 1 gives 1 soil 3;", 1);
        bad("strip a at 1 1 gives 1 soil 3 soil 3;", 2, 30);
        bad("strip a at 1 1 soil 3 gives 1;", 2, 15);
        bad("family x at 1 1 holds a need 1;", 2, 16);
        // All ten, held by one.
        StringBuilder text = new StringBuilder(strips(10)).append("family x at 1 1 need 1");
        for (int i = 0; i < 10; i++) {
            text.append(" holds ").append(NAMES.charAt(i));
        }
        good(text + ";", 10);
        good("family x at 1 1 need 1;", 0);
    }

    private static void names() {
        Edge.says("NAME: a WORD of 1 to 8 letters that is none of strip, at, gives, soil, hail, to, frost, dry, blight, "
            + "family, need, holds, takes, odds.");
        for (String name : new String[] {"a", "z", "abcdefgh", "zzzzzzzz", "strips", "trip", "a".repeat(8), "toto"}) {
            good("strip " + name + " at 1 1 gives 1;family " + name + " at 1 1 need 1 holds " + name + ";", 1);
        }
        for (String name : new String[] {"abcdefghi", "a".repeat(9), "z".repeat(16), "a".repeat(64), "q".repeat(500)}) {
            bad("strip " + name + " at 1 1 gives 1;", 2, 6);
            bad("family " + name + " at 1 1 need 1;", 2, 7);
            bad("strip a at 1 1 gives 1;family x at 1 1 need 1 holds " + name + ";", 2, 52);
        }
        for (String name : Model.RESERVED) {
            bad("strip " + name + " at 1 1 gives 1;", 2, 6);
            bad("family " + name + " at 1 1 need 1;", 2, 7);
            bad("strip a at 1 1 gives 1;family x at 1 1 need 1 holds " + name + ";", 2, 52);
            // One letter more makes a NAME of it.
            good("strip " + name + "s at 1 1 gives 1;", 1);
        }
        // Of nine letters the last eight are a NAME that is there already: it is no NAME all the same.
        bad("strip bcdefghi at 1 1 gives 1;strip abcdefghi at 1 1 gives 1;", 2, 36);
        bad("strip bcdefghi at 1 1 gives 1;family x at 1 1 need 1 holds abcdefghi;", 2, 59);
        // A WORD whose last eight letters are a told one's stands for nothing else.
        bad("xxxstrip a at 1 1 gives 1;", 2, 0);
        bad("xxxxxxxxstrip a at 1 1 gives 1;", 2, 0);
    }

    private static void namesTold() {
        Edge.says("3 a NAME of a strip that is one of a strip already, of a family that is one of a family; a NAME of holds "
            + "that is no strip told ahead.");
        bad("strip a at 1 1 gives 1;strip a at 1 1 gives 1;", 3, 29);
        good("strip a at 1 1 gives 1;strip aa at 1 1 gives 1;strip b at 1 1 gives 1;", 3);
        bad("strip a at 1 1 gives 1;strip b at 1 1 gives 1;strip a;", 3, 52);
        bad("strip abcdefgh at 1 1 gives 1;strip abcdefgh at 1 1 gives 1;", 3, 36);
        good("strip abcdefgh at 1 1 gives 1;strip abcdefgg at 1 1 gives 1;strip bbcdefgh at 1 1 gives 1;", 3);
        bad("family a at 1 1 need 1;family a at 1 1 need 1;", 3, 30);
        good("family a at 1 1 need 1;strip a at 1 1 gives 1;family b at 1 1 need 1;strip b at 1 1 gives 1;", 2);
        bad("family x at 1 1 need 1 holds a;strip a at 1 1 gives 1;", 3, 29);
        bad("strip a at 1 1 gives 1;family x at 1 1 need 1 holds x;", 3, 52);
        bad("strip a at 1 1 gives 1;family x at 1 1 need 1 holds aa;", 3, 52);
        // The old VILLAGE has a STRIP of that NAME; it does not count.
        bad("family z at 1 1 need 1 holds a;", 3, 29);
        good("strip a at 1 1 gives 1;family x at 1 1 need 1;", 1);
        // The tenth STRIP and the fourth FAMILY count as the others do.
        bad(strips(9) + "strip i", 3, 9 * 23 + 6);
        bad(families(3) + "family c", 3, 3 * 23 + 7);
        good(strips(10) + "family x at 1 1 need 1 holds j;", 10);
    }

    private static String families(int count) {
        StringBuilder text = new StringBuilder();
        for (int i = 0; i < count; i++) {
            text.append("family ").append(NAMES.charAt(i)).append(" at 1 1 need 1;");
        }
        return text.toString();
    }

    private static void numbers() {
        Edge.says("GIVES (1 to 99), a SOIL (1 to 3; 1 without).");
        within("strip a at ", " 1 gives 1;", 0, 99);
        within("strip a at 1 ", " gives 1;", 0, 99);
        within("strip a at 1 1 gives ", ";", 1, 99);
        within("strip a at 1 1 gives 1 soil ", ";", 1, 3);
        Edge.says("dry s: of SOIL s (1 to 3); blight: on all; it takes so many eighths (0 to 8), by odds of so many "
            + "sixteenths (0 to 16).");
        within("dry ", " takes 1 odds 1;", 1, 3);
        within("frost ", " takes 1 odds 1;", 0, 99);
        within("hail 0 to ", " takes 1 odds 1;", 0, 99);
        within("hail ", " to 99 takes 1 odds 1;", 0, 99);
        for (String harm : new String[] {"hail 1 to 2", "frost 5", "dry 2", "blight"}) {
            within(harm + " takes ", " odds 1;", 0, 8);
            within(harm + " takes 1 odds ", ";", 0, 16);
        }
        within("family x at ", " 1 need 1;", 0, 99);
        within("family x at 1 ", " need 1;", 0, 99);
        within("family x at 1 1 need ", ";", 0, 99);
    }

    private static void within(String ahead, String behind, int low, int high) {
        int strips = ahead.startsWith("strip") ? 1 : 0;
        for (int v = 0; v <= 100; v++) {
            if (v >= low && v <= high) {
                good(ahead + v + behind, strips);
            } else {
                bad(ahead + v + behind, v == 100 ? 1 : 4, ahead.length());
            }
        }
    }

    private static void hailSpan() {
        Edge.says("hail a to b: with X of a to b (b not below a)");
        for (int a = 0; a <= 99; a += 11) {
            good("hail " + a + " to " + a + " takes 1 odds 1;", 0);
            if (a > 0) {
                String ahead = "hail " + a + " to ";
                bad(ahead + (a - 1) + " takes 1 odds 1;", 4, ahead.length());
            }
        }
    }

    private static void digits() {
        Edge.says("NUMBERS (1 or 2 digits)");
        good("strip a at 0 00 gives 01 soil 03;", 1);
        good("hail 05 to 5 takes 08 odds 00;", 0);
        bad("hail 06 to 5 takes 08 odds 00;", 4, 11);
        bad("strip a at 000 1 gives 1;", 1, 11);
        bad("strip a at 1 001 gives 1;", 1, 13);
        bad("strip a at 1 1 gives 100;", 1, 21);
        bad("strip a at 1 1 gives 4294967297;", 1, 21);
        bad("strip a at 1 1 gives 1 soil 001;", 1, 28);
        bad("strip a at 1 1 gives 00;", 4, 21);
        bad("strip a at 1 1 gives -1;", 1, 21);
    }

    private static void tooMany() {
        Edge.says("5 an 11th STRIP (at strip), a 7th HARM (at its WORD), a 5th FAMILY (at family).");
        String ten = strips(10);
        good(ten, 10);
        bad(ten + "strip k at 1 1 gives 1;", 5, ten.length());
        bad(ten + " \n strip", 5, ten.length() + 3);
        // Whatever comes behind that WORD is no matter.
        bad(ten + "strip #", 5, ten.length());
        bad(ten + "strip a", 5, ten.length());
        String[] harms = {"hail 1 to 2 takes 1 odds 1;", "frost 1 takes 1 odds 1;", "dry 1 takes 1 odds 1;",
            "blight takes 1 odds 1;"};
        for (String harm : harms) {
            String six = harm.repeat(6);
            good(six, 0);
            for (String seventh : harms) {
                bad(six + seventh, 5, six.length());
                bad(six + seventh.split(" ")[0], 5, six.length());
            }
        }
        String mixed = harms[0] + harms[1] + harms[2] + harms[3] + harms[0] + harms[1];
        bad(mixed + "dry 0", 5, mixed.length());
        String four = families(4);
        good(four, 0);
        bad(four + "family k at 1 1 need 1;", 5, four.length());
        bad(four + "family a", 5, four.length());
        // As many as there may be of one do not stand in the way of another.
        good(ten + "blight takes 1 odds 1;" + families(4), 10);
        bad(ten + harms[3].repeat(6) + "strip", 5, ten.length() + 6 * harms[3].length());
    }

    private static void heldAlready() {
        Edge.says("6 a STRIP that somebody holds already (at its NAME behind holds).");
        String two = "strip a at 1 1 gives 1;strip b at 1 1 gives 1;";
        String x = "family x at 1 1 need 1 holds a";
        String y = ";family y at 1 1 need 1 holds ";
        good(two + x + " holds b;", 2);
        bad(two + x + " holds a;", 6, two.length() + x.length() + 7);
        bad(two + x + " holds b holds a;", 6, two.length() + x.length() + 15);
        good(two + x + y + "b;", 2);
        bad(two + x + y + "a;", 6, two.length() + x.length() + y.length());
        bad(two + x + y + "b holds a;", 6, two.length() + x.length() + y.length() + 8);
    }

    private static void firstAlongTheText() {
        Edge.says("FAULTS, the first along the text (of one TOKEN the least kind)");
        bad("strip a at 1 1 gives 0 #", 4, 21);
        bad("strip a at 1 1 gives # soil 0", 1, 21);
        bad("strip a at 1 gives 0;#", 2, 13);
        bad("strip a at 1 1 gives 1;strip a at # 1", 3, 29);
        bad("strip a at 1 1 gives 1;strip b at # 1", 1, 34);
        bad("blight takes 9 odds 17;", 4, 13);
        bad("blight takes 8 odds 17;", 4, 20);
        bad("hail 5 to 4 takes 9 odds 17", 4, 10);
        bad("family x at 1 1 need 1 holds a holds #", 3, 29);
        bad("at 100", 2, 0);
        bad("100 at", 1, 0);
    }

    private static void leastKind() {
        Edge.says("(of one TOKEN the least kind)");
        // No TOKEN at all, where another one must stand: kind 1 and not 2.
        bad("strip #", 1, 6);
        bad("strip 123", 1, 6);
        bad("strip a 123", 1, 8);
        bad("strip a at 1 1 gives 1 123", 1, 23);
        bad("123", 1, 0);
        bad(";#", 2, 0);
        // A NUMBER that can't be where none can stand: 2 and not 4.
        bad("strip a at 1 1 0", 2, 15);
        bad("blight 9", 2, 7);
        bad("blight takes 1 17", 2, 15);
        bad("0", 2, 0);
        // A told NAME where none can stand: 2 and not 3 or 6.
        bad("strip a at 1 1 gives 1;strip b at a", 2, 34);
        bad("strip a at 1 1 gives 1;family x at 1 1 need 1 holds a a", 2, 54);
        // A 7th HARM's WORD where none can stand: 2 and not 5.
        String six = "blight takes 1 odds 1;".repeat(6);
        bad(six + "strip a at 1 1 gives 1 hail", 2, six.length() + 23);
        bad(strips(10) + "hail strip", 2, 10 * 23 + 5);
    }

    private static void atTheEnd() {
        Edge.says("(the end: the text's length;");
        String text = "strip a at 1 1 gives 1 soil 2;";
        for (int n = 1; n < text.length(); n++) {
            Story cut = Story.rich().fed(text);
            HailHill hill = cut.then("village", n).make();
            boolean word = n < 5 || n > 8 && n < 10 || n > 15 && n < 20 || n > 23 && n < 27;
            int place = word ? startOfWord(text, n) : n;
            Check.due("status of the first " + n + " bytes", hill.status(), 9);
            Check.due("fault(0) of the first " + n + " bytes", hill.fault(0), 2);
            Check.due("fault(1) of the first " + n + " bytes", hill.fault(1), place);
        }
        // What stands behind the first n bytes makes neither a NUMBER nor a WORD longer.
        String longer = "strip a at 123 45 gives 67;";
        int[][] cuts = {{11, 2, 11}, {12, 2, 12}, {13, 2, 13}, {14, 1, 11}, {26, 1, 11}};
        for (int[] cut : cuts) {
            HailHill hill = Story.rich().fed(longer).then("village", cut[0]).make();
            Check.due("status of the first " + cut[0] + " bytes of three digits", hill.status(), 9);
            Check.due("fault(0) of the first " + cut[0] + " bytes of three digits", hill.fault(0), cut[1]);
            Check.due("fault(1) of the first " + cut[0] + " bytes of three digits", hill.fault(1), cut[2]);
        }
        bad(blanks(599) + "5", 2, 599);
        bad(blanks(598) + "55", 2, 598);
        bad(blanks(597) + "555", 1, 597);
        bad(blanks(599) + "a", 2, 599);
        bad(blanks(599) + ";", 2, 599);
        bad("strip a at 1 1 gives 1   ", 2, 25);
        bad("strip a at 1 1 gives 1\n", 2, 23);
    }

    private static int startOfWord(String text, int n) {
        return text.substring(0, n).lastIndexOf(' ') + 1;
    }
}
