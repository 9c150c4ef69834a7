import java.lang.reflect.Constructor;
import java.lang.reflect.Field;
import java.lang.reflect.Method;
import java.lang.reflect.Modifier;
import java.nio.file.Files;
import java.nio.file.Paths;
import java.util.ArrayList;
import java.util.Arrays;
import java.util.HashSet;
import java.util.List;
import java.util.Random;
import java.util.Set;
import java.util.TreeSet;
import java.util.regex.Matcher;
import java.util.regex.Pattern;

/** Rules of LANGUAGE.md that a program can look at, and the room that a run takes. */
public final class RulesTest {
    private static final String SOURCE = "src/main/java/HailHill.java";
    private static final String[] FACE = {"status", "top", "bottom", "tray", "write", "read", "pour", "feed",
        "village", "fault", "many", "strip", "harm", "family", "hold", "let", "likely", "weight", "left", "round",
        "net", "odds", "hungry", "worth", "best", "climb", "climbed", "edge", "change", "beside", "swaps", "swap",
        "ring", "settle", "give", "given", "narrow", "together", "starved", "luck", "mark", "back"};

    public static void main(String[] args) throws Exception {
        face();
        classesInside();
        words();
        library();
        methodLengths();
        neverThrows();
        room();
        Check.end();
    }

    private static void face() {
        Set<String> open = new TreeSet<>();
        for (Method m : HailHill.class.getDeclaredMethods()) {
            if (Modifier.isPublic(m.getModifiers())) {
                open.add(m.getName());
            } else {
                Check.due("private: " + m.getName(), Modifier.isPrivate(m.getModifiers()), true);
            }
        }
        Check.due("the face is the document's", open.equals(new TreeSet<>(Arrays.asList(FACE))), true);
        Check.due("final", Modifier.isFinal(HailHill.class.getModifiers()), true);
        for (Field f : HailHill.class.getDeclaredFields()) {
            boolean constant = f.getName().equals("NONE");
            Check.due("private: " + f.getName(), Modifier.isPrivate(f.getModifiers()), !constant);
        }
        Constructor<?>[] made = HailHill.class.getDeclaredConstructors();
        Check.due("one constructor", made.length, 1);
        Check.due("it is public", Modifier.isPublic(made[0].getModifiers()), true);
    }

    private static void classesInside() {
        Set<String> face = new HashSet<>(Arrays.asList(FACE));
        List<Class<?>> all = new ArrayList<>(Arrays.asList(HailHill.class.getDeclaredClasses()));
        Check.due("some twelve classes at most", all.size() + 1 <= 12, true);
        for (Class<?> c : all) {
            Check.due("static: " + c.getName(), Modifier.isStatic(c.getModifiers()), true);
        }
        all.add(HailHill.class);
        for (Class<?> c : all) {
            int fields = 0;
            for (Field f : c.getDeclaredFields()) {
                if (Modifier.isStatic(f.getModifiers())) {
                    Check.due("final: " + f.getName(), Modifier.isFinal(f.getModifiers()), true);
                } else {
                    fields++;
                }
            }
            Check.due("some twenty fields at most: " + c.getName(), fields <= 20, true);
            for (Method m : c.getDeclaredMethods()) {
                Check.due("seven parameters at most: " + m.getName(), m.getParameterCount() <= 7, true);
                Check.due("no other method bears a name of the face: " + m.getName(),
                    face.contains(m.getName()) && !Modifier.isPublic(m.getModifiers()), false);
            }
        }
    }

    private static String withoutComments(String source) {
        return source.replaceAll("(?s)/\\*.*?\\*/", "").replaceAll("//[^\n]*", "");
    }

    private static void words() throws Exception {
        String source = withoutComments(Files.readString(Paths.get(SOURCE)));
        String[] none = {"throw", "throws", "try", "catch", "finally", "synchronized", "assert", "import", "package",
            "protected", "double", "float", "record", "enum", "hashCode", "toString", "System.out", "Exact"};
        for (String word : none) {
            boolean found = source.matches("(?s).*\\b" + word.replace(".", "\\.") + "\\b.*");
            Check.due("the word " + word + " stands in it", found, false);
        }
        Check.due("a lambda stands in it", source.contains("->"), false);
        Check.due("a method reference stands in it", source.contains("::"), false);
        Check.due("a static block stands in it", source.matches("(?s).*static\\s*\\{.*"), false);
        Check.due("signs of 1 to 127 alone", source.chars().allMatch(c -> c >= 1 && c <= 127), true);
    }

    /** Of the Java library just what the language's rule 4 lists and the class needs: no constant such as MAX_VALUE. */
    private static void library() throws Exception {
        String source = withoutComments(Files.readString(Paths.get(SOURCE)));
        Set<String> listed = new TreeSet<>(Arrays.asList("Integer.bitCount(", "Math.abs(", "Math.max(", "Math.min(", "System.arraycopy("));
        Matcher use = Pattern.compile("\\b(Integer|Long|Short|Byte|Character|Boolean|Math|System|Arrays|Objects|Object|String|StringBuilder"
            + "|List|ArrayList|Thread|Runtime)\\b(\\.\\w+\\(?)?").matcher(source);
        int uses = 0;
        while (use.find()) {
            uses++;
            Check.due("stands in the language's list: " + use.group(), listed.contains(use.group()), true);
        }
        Check.due("uses of the library were found", uses > 0, true);
    }

    private static void methodLengths() throws Exception {
        int start = -1;
        List<String> lines = Files.readAllLines(Paths.get(SOURCE));
        for (int i = 0; i < lines.size(); i++) {
            String line = lines.get(i);
            String bare = line.trim();
            int indent = line.length() - line.stripLeading().length();
            boolean opens = bare.endsWith("{") && bare.contains("(") && !bare.startsWith("static final");
            if (start < 0 && opens && (indent == 4 || indent == 8) && !bare.matches("(if|for|while|switch|\\}).*")) {
                start = i;
            } else if (start >= 0 && bare.equals("}") && indent <= lines.get(start).indexOf(lines.get(start).trim())) {
                Check.due("sixty lines at most: " + lines.get(start).trim(), i - start + 1 <= 60, true);
                start = -1;
            }
        }
    }

    private static int wild(Random random) {
        int[] some = {-1, 0, 1, 2, 3, 4, 5, 6, 7, 9, 10, 16, 60, 61, 63, 64, 99, 600, 1023, 1024, 9999,
            Integer.MAX_VALUE, Integer.MIN_VALUE, Integer.MAX_VALUE - 1};
        return random.nextInt(4) == 0 ? random.nextInt() : some[random.nextInt(some.length)];
    }

    /** Any arguments in any state: an exception would come out of invoke() and end the test. */
    private static void neverThrows() throws Exception {
        Random random = new Random(11);
        Method[] calls = HailHill.class.getDeclaredMethods();
        Arrays.sort(calls, (a, b) -> a.getName().compareTo(b.getName()));
        for (int run = 0; run < 300; run++) {
            HailHill hill = new HailHill();
            for (int i = 0; i < 500; i++) {
                if (random.nextInt(60) == 0) {
                    hill.village(0);
                    Check.village(hill, new VillageText(random).text());
                }
                Method call = calls[random.nextInt(calls.length)];
                if (Modifier.isPublic(call.getModifiers())) {
                    Object[] given = new Object[call.getParameterCount()];
                    for (int k = 0; k < given.length; k++) {
                        given[k] = wild(random);
                        if (call.getParameterTypes()[k] == long.class) {
                            given[k] = random.nextLong();
                        }
                    }
                    call.invoke(hill, given);
                    Check.due("bottom() above 0", hill.bottom() > 0, true);
                }
            }
        }
    }

    /** The dearest calls over and over: what they make must not grow with how often they are called. */
    private static void room() {
        StringBuilder text = new StringBuilder();
        for (int i = 0; i < 8; i++) {
            text.append("strip ").append((char) ('a' + i)).append(" at ").append(i * 7).append(" 3 gives 20;");
        }
        text.append("blight takes 3 odds 4;frost 4 takes 2 odds 3;family x at 0 0 need 9 holds a holds d holds g;");
        text.append("family y at 9 9 need 30 holds b holds c;family z at 30 3 need 20 holds h;");
        HailHill hill = Check.hill(text.toString());
        callAll(hill, 20);
        long before = madeBytes();
        callAll(hill, 200);
        long made = madeBytes() - before;
        Check.due("bytes made by calls, " + made + ", stay few", made < 100000, true);
    }

    private static void callAll(HailHill hill, int times) {
        hill.tray(0, 0, 60);
        for (int i = 0; i < times; i++) {
            hill.mark();
            hill.best(0, 3);
            hill.climb(0);
            hill.edge(1, 2);
            hill.change(0, 2, 0, 9);
            hill.beside(0, 20, 1, 0, 2, 9);
            hill.swaps(0, 1);
            hill.ring(0, 1, 2, 0);
            hill.settle();
            hill.give(i & 1);
            hill.narrow(0, 5);
            hill.together();
            hill.luck(0, 0, 60, 5, 20);
            hill.round(1, 255);
            hill.back();
            hill.feed(0x73747269, 0x70206120, 0x61742030, 0x20302067, 0x69766573);
        }
    }

    private static long madeBytes() {
        com.sun.management.ThreadMXBean bean =
            (com.sun.management.ThreadMXBean) java.lang.management.ManagementFactory.getThreadMXBean();
        return bean.getThreadAllocatedBytes(Thread.currentThread().getId());
    }
}
