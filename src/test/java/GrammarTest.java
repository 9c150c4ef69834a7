import java.io.IOException;
import java.nio.file.Files;
import java.nio.file.Paths;
import java.util.ArrayList;
import java.util.Arrays;
import java.util.List;
import java.util.Set;
import java.util.TreeSet;
import java.util.regex.Matcher;
import java.util.regex.Pattern;

/**
 * The grammar of a VILLAGE, read out of the document's own line: behind each beginning of a PART every kind
 * of TOKEN is tried, and must stand there just if the document lets it.
 */
public final class GrammarTest {
    private static final String TOLD = "strip p at 1 1 gives 1;strip q at 1 1 gives 1;strip r at 1 1 gives 1;";
    private static final String END = "";

    /** Each PART as a row of signs, with what may stand perhaps or again once left out, once there, and so on. */
    private static final List<List<String>> PARTS = new ArrayList<>();
    private static List<String> reserved;

    public static void main(String[] args) throws IOException {
        String document = Files.readString(Paths.get("../shared/DOC.md")).replaceAll("\\s+", " ");
        readWords(document);
        readParts(document);
        Check.due("ways to write a PART, { } up to three times", PARTS.size(), 10);
        everyBeginning();
        partsInAnyOrder();
        Check.end();
    }

    private static String found(String document, String pattern) {
        Matcher found = Pattern.compile(pattern).matcher(document);
        Check.due("stands in the document: " + pattern, found.find(), true);
        return found.group(1);
    }

    private static void readWords(String document) {
        reserved = Arrays.asList(found(document, "letters that is none of ([a-z, ]+)\\.").split(", "));
        Check.due("WORDS that are no NAMES", reserved.size(), 14);
    }

    private static void readParts(String document) {
        Check.due("a VILLAGE is", found(document, "VILLAGE: (\\{PART\\})\\.").equals("{PART}"), true);
        String falls = found(document, "FALLS: ([a-zA-Z ]+)\\.");
        String parts = found(document, "PART: (strip .*?) FALLS: ").replace("FALLS", falls);
        for (String part : parts.split(" or ")) {
            Matcher more = Pattern.compile("(.*)([\\[{])(.*)[\\]}](.*)").matcher(part);
            if (more.matches()) {
                int most = more.group(2).equals("{") ? 3 : 1;
                for (int times = 0; times <= most; times++) {
                    addPart(more.group(1) + (more.group(3) + " ").repeat(times) + more.group(4));
                }
            } else {
                addPart(part);
            }
        }
    }

    private static void addPart(String text) {
        PARTS.add(Arrays.asList(text.trim().split(" +")));
    }

    private static Set<String> mayFollow(List<String> ahead) {
        Set<String> next = new TreeSet<>();
        for (List<String> part : PARTS) {
            if (part.size() > ahead.size() && part.subList(0, ahead.size()).equals(ahead)) {
                next.add(part.get(ahead.size()));
            }
        }
        if (ahead.isEmpty() || PARTS.contains(ahead)) {
            next.add(END);
            PARTS.forEach(part -> next.add(part.get(0)));
        }
        return next;
    }

    private static void everyBeginning() {
        Set<String> seen = new TreeSet<>();
        for (List<String> part : PARTS) {
            for (int size = 0; size <= part.size(); size++) {
                List<String> ahead = part.subList(0, size);
                boolean mostTimes = ahead.stream().filter("holds"::equals).count() == 3;
                if (!mostTimes && seen.add(String.join(" ", ahead))) {
                    everyToken(ahead, mayFollow(ahead));
                }
            }
        }
        Check.due("beginnings of PARTS that were looked at: " + seen, seen.size() > 50, true);
    }

    private static void everyToken(List<String> ahead, Set<String> next) {
        List<String> tokens = new ArrayList<>(reserved);
        tokens.addAll(Arrays.asList(nameBehind(ahead), "1", ";", END, "abcdefghi", "#", "100", "A"));
        for (String between : new String[] {" ", "\n", " \n\n  "}) {
            String start = TOLD + written(ahead, between) + (ahead.isEmpty() ? "" : between);
            for (String token : tokens) {
                tryToken(start, token, ahead, next.contains(signOf(token)));
            }
        }
    }

    private static void tryToken(String start, String token, List<String> ahead, boolean may) {
        String text = start + token;
        List<String> all = new ArrayList<>(ahead);
        all.add(signOf(token));
        boolean whole = PARTS.contains(all) || token.equals(END) && may;
        HailHill hill = new HailHill();
        int strips = Check.village(hill, text);
        boolean isStrip = ahead.size() > 0 && ahead.get(0).equals("strip");
        Check.due("village: " + text, strips, !may || !whole ? HailHill.NONE : isStrip ? 4 : 3);
        int kind = token.matches("#|100|A") ? 1 : 2;
        Check.due("fault(0): " + text, hill.fault(0), may && whole ? 0 : kind);
        Check.due("fault(1): " + text, hill.fault(1), may && whole ? HailHill.NONE : may ? text.length() : start.length());
    }

    private static String signOf(String token) {
        if (token.equals("1")) {
            return "NUMBER";
        }
        return token.matches("zz|[pqr]") ? "NAME" : token;
    }

    /** A NAME that may stand there: of a STRIP not held yet behind holds, a new one else. */
    private static String nameBehind(List<String> ahead) {
        int held = (int) ahead.stream().filter("holds"::equals).count();
        return held == 0 || held > 3 ? "zz" : "pqr".substring(held - 1, held);
    }

    private static String written(List<String> signs, String between) {
        List<String> tokens = new ArrayList<>();
        for (int i = 0; i < signs.size(); i++) {
            String sign = signs.get(i);
            tokens.add(sign.equals("NUMBER") ? "1" : sign.equals("NAME") ? nameBehind(signs.subList(0, i)) : sign);
        }
        return String.join(between, tokens);
    }

    /** Any two PARTS one behind the other, but that both hold p or both are of one NAME. */
    private static void partsInAnyOrder() {
        for (List<String> one : PARTS) {
            for (List<String> other : PARTS) {
                String second = written(other, " ").replace("zz", "yy");
                boolean both = one.contains("holds") && other.contains("holds");
                if (!both) {
                    HailHill hill = Check.hill(TOLD + written(one, " ") + second);
                    Check.due("STRIPS: " + one + other, hill.many(0), 3 + count("strip", one, other));
                    Check.due("FAMILIES: " + one + other, hill.many(2), count("family", one, other));
                    int harms = 2 - count("strip", one, other) - count("family", one, other);
                    Check.due("HARMS: " + one + other, hill.many(1), harms);
                    Check.due("nothing ahead: " + one, Check.hill(TOLD + second).many(0), 3 + count("strip", other, List.of("")));
                }
            }
        }
    }

    private static int count(String word, List<String> one, List<String> other) {
        return (one.get(0).equals(word) ? 1 : 0) + (other.get(0).equals(word) ? 1 : 0);
    }
}
