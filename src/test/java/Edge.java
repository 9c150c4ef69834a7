import java.io.IOException;
import java.io.UncheckedIOException;
import java.nio.file.Files;
import java.nio.file.Paths;
import java.util.ArrayList;
import java.util.Arrays;
import java.util.HashMap;
import java.util.List;
import java.util.Map;
import java.util.regex.Pattern;

/**
 * What is just inside a boundary and just outside it. Each call is made on one of two like objects; then
 * both are asked for all that can be asked, so that a call that changes what it may not is seen.
 */
final class Edge {
    private static final String DOCUMENT = "../shared/DOC.md";
    private static final List<String> QUOTED = new ArrayList<>();
    private static final Map<String, List<String>> MAY_CHANGE = new HashMap<>();
    private static String sentence = "";
    private static String document = null;

    static {
        may("tray write pour", Portrait.TRAYS);
        may("feed", Portrait.TAPE);
        may("village", Portrait.LAND, Portrait.TAPE, Portrait.FAULT);
        may("hold let likely settle", Portrait.LAND);
        may("odds hungry worth best beside", Portrait.FRACTION);
        may("climb", Portrait.FRACTION, Portrait.CLIMBED);
        may("give", Portrait.FRACTION, Portrait.GIVEN);
        may("mark", Portrait.MARKS);
        may("back", Portrait.MARKS, Portrait.LAND);
    }

    private Edge() {
    }

    private static void may(String names, String... parts) {
        for (String name : names.split(" ")) {
            MAY_CHANGE.put(name, Arrays.asList(parts));
        }
    }

    /** The document's own words, which what follows looks at. */
    static void says(String words) {
        sentence = words;
        QUOTED.add(words);
        Check.due("the document says: " + words, document().contains(words), true);
    }

    /** The story's object; its STATUS is another one than the call is to leave, so that this must be set. */
    private static HailHill made(Story story, String name, int status) {
        HailHill hill = story.make();
        if (Face.hasStatus(name)) {
            hill.many(status == 0 ? 9 : 0);
        }
        return hill;
    }

    /** A call that is taken, with what is due. */
    static void gives(Story story, long want, String name, long... args) {
        HailHill hill = made(story, name, 0);
        String told = Face.told(name, args);
        Check.due(titled(told), Face.call(hill, name, args), want);
        Check.due(titled("status of " + told), hill.status(), 0);
        compare(told, hill, story, MAY_CHANGE.getOrDefault(name, List.of()));
    }

    /** A call that is taken and tells a FRACTION. */
    static void tells(Story story, long top, long bottom, String name, long... args) {
        HailHill hill = made(story, name, 0);
        String told = Face.told(name, args);
        Face.call(hill, name, args);
        Check.due(titled("status of " + told), hill.status(), 0);
        Check.due(titled("top() behind " + told), hill.top(), top);
        Check.due(titled("bottom() behind " + told), hill.bottom(), bottom);
        compare(told, hill, story, MAY_CHANGE.getOrDefault(name, List.of()));
    }

    /** A call that is refused: NONE or false, the STATUS, and nothing else is changed. */
    static void refuses(Story story, int status, String name, long... args) {
        HailHill hill = made(story, name, status);
        String told = Face.told(name, args);
        Check.due(titled(told), Face.call(hill, name, args), Face.refusal(name));
        Check.due(titled("status of " + told), hill.status(), status);
        List<String> changed = status == 9 ? Arrays.asList(Portrait.TAPE, Portrait.FAULT) : List.of();
        compare(told, hill, story, changed);
    }

    /** The numbers of a row that a call can't take, each in the place of the one that it can. */
    static void refusesEach(Story story, int status, String name, long[] good, int place, long... bad) {
        for (long v : bad) {
            long[] args = good.clone();
            args[place] = v;
            refuses(story, status, name, args);
        }
    }

    /** Two stories that must end alike, in the parts told. */
    static void same(Story one, Story other, String... parts) {
        Map<String, List<String>> want = Portrait.of(one.make());
        Map<String, List<String>> got = Portrait.of(other.make());
        for (String part : parts) {
            boolean alike = got.get(part).equals(want.get(part));
            Check.due(titled("alike: " + part), alike, true);
            if (!alike) {
                System.out.println("  one " + want.get(part) + "\n  other " + got.get(part));
            }
        }
    }

    private static String titled(String told) {
        return "[" + sentence + "] " + told;
    }

    private static void compare(String told, HailHill hill, Story story, List<String> changed) {
        Map<String, List<String>> got = Portrait.of(hill);
        Map<String, List<String>> want = Portrait.of(story.make());
        for (String part : want.keySet()) {
            if (!changed.contains(part)) {
                boolean same = got.get(part).equals(want.get(part));
                Check.due(titled(told + " leaves as it was: " + part), same, true);
                if (!same) {
                    System.out.println("  was " + want.get(part) + "\n  is  " + got.get(part));
                }
            }
        }
    }

    private static String document() {
        if (document == null) {
            try {
                document = Files.readString(Paths.get(DOCUMENT)).replaceAll("\\s+", " ");
            } catch (IOException e) {
                throw new UncheckedIOException(e);
            }
        }
        return document;
    }

    /** What the document says to no call: titles, fences, and what FaceTest holds the class against. */
    private static final String[] FRAMES = {"^# HailHill .*? ==== 1\\.", "## The public face ```java .*? ``` ## Terms", "```text", "```",
        "==== \\d\\.", "The constants: .*? the interface says: ---- MARKS\\.", "## Promise \\d+: [^`]+`[^`]*`:",
        "; what later calls answer is free\\.", "## Not promised .*$"};

    /** So that no sentence is left out: all that is no frame must have been quoted. */
    static void everyWordIsQuoted() {
        StringBuilder rest = new StringBuilder(document());
        for (String words : QUOTED) {
            for (int at = document().indexOf(words); at >= 0; at = document().indexOf(words, at + 1)) {
                rest.replace(at, at + words.length(), "~".repeat(words.length()));
            }
        }
        String left = rest.toString();
        for (String frame : FRAMES) {
            left = left.replaceAll(frame, "~");
        }
        for (String words : left.split("~+")) {
            boolean quoted = !words.matches(".*[A-Za-z0-9].*");
            Check.due("quoted: " + words, quoted, true);
        }
        Check.due("promises in the document", Pattern.compile("## Promise \\d+: ").matcher(document()).results().count(), 43);
    }
}
