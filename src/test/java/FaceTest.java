import java.io.IOException;
import java.lang.reflect.Field;
import java.lang.reflect.Method;
import java.lang.reflect.Modifier;
import java.nio.file.Files;
import java.nio.file.Paths;
import java.util.ArrayList;
import java.util.Arrays;
import java.util.List;
import java.util.TreeSet;
import java.util.regex.Matcher;
import java.util.regex.Pattern;

/** The public face, held against the document's own lines, and what the interface says ahead of the calls. */
public final class FaceTest {
    private static final Pattern CALL = Pattern.compile("public (int|long|boolean) (\\w+)\\(([^)]*)\\);");
    private static final Pattern AHEAD = Pattern.compile("Ahead of the calls ([^.]*?) the interface says: ---- ([^.]*)\\.");

    public static void main(String[] args) throws IOException {
        String document = Files.readString(Paths.get("../shared/DOC.md"));
        String source = Files.readString(Paths.get("src/main/java/HailHill.java"));
        String face = between(document, "```java\n", "```");
        head(face);
        constants(document, face);
        calls(face);
        parameterNames(face, source);
        promises(document, face);
        headings(document, source);
        nothingBeside();
        Check.end();
    }

    private static String between(String text, String from, String to) {
        int start = text.indexOf(from) + from.length();
        return text.substring(start, text.indexOf(to, start));
    }

    private static void head(String face) {
        Check.due("the face names the class", face.startsWith("public final class HailHill {"), true);
        Check.due("public", Modifier.isPublic(HailHill.class.getModifiers()), true);
        Check.due("final", Modifier.isFinal(HailHill.class.getModifiers()), true);
        Check.due("its name", HailHill.class.getName().equals("HailHill"), true);
        Check.due("the face has a constructor", face.contains("public HailHill();"), true);
        Check.due("one that is public", HailHill.class.getConstructors().length, 1);
        Check.due("without parameters", HailHill.class.getConstructors()[0].getParameterCount(), 0);
    }

    private static void constants(String document, String face) {
        Matcher constant = Pattern.compile("public static final int (\\w+) = (-?\\d+);").matcher(face);
        int count = 0;
        while (constant.find()) {
            count++;
            Check.due(constant.group(1), valueOf(constant.group(1)), Long.parseLong(constant.group(2)));
        }
        Check.due("constants of the face", count, 1);
        Check.due("the document's words on it", document.contains("The constants: `NONE = -1`: None."), true);
        int open = 0;
        for (Field f : HailHill.class.getDeclaredFields()) {
            open += Modifier.isPrivate(f.getModifiers()) ? 0 : 1;
        }
        Check.due("fields that are seen from outside", open, count);
    }

    private static long valueOf(String name) {
        try {
            Field f = HailHill.class.getField(name);
            boolean constant = Modifier.isStatic(f.getModifiers()) && Modifier.isFinal(f.getModifiers());
            Check.due(name + " is a constant int", constant && f.getType() == int.class, true);
            return f.getInt(null);
        } catch (ReflectiveOperationException e) {
            throw new IllegalStateException(name, e);
        }
    }

    private static void calls(String face) {
        TreeSet<String> want = new TreeSet<>();
        Matcher call = CALL.matcher(face);
        while (call.find()) {
            want.add(call.group(1) + " " + call.group(2) + "(" + kinds(call.group(3)) + ")");
        }
        Check.due("calls of the document's face", want.size(), 42);
        TreeSet<String> got = new TreeSet<>();
        for (Method m : HailHill.class.getDeclaredMethods()) {
            if (!Modifier.isPrivate(m.getModifiers())) {
                List<String> kinds = new ArrayList<>();
                for (Class<?> kind : m.getParameterTypes()) {
                    kinds.add(kind.getName());
                }
                got.add(m.getReturnType().getName() + " " + m.getName() + "(" + String.join(", ", kinds) + ")");
                Check.due("public, not static: " + m.getName(), m.getModifiers(), Modifier.PUBLIC);
                Check.due("throws nothing: " + m.getName(), m.getExceptionTypes().length, 0);
            }
        }
        Check.due("the calls are the document's: " + want + " and " + got, got.equals(want), true);
    }

    private static String kinds(String parameters) {
        return parameters.replaceAll("(\\w+) \\w+", "$1");
    }

    private static void parameterNames(String face, String source) {
        Matcher call = CALL.matcher(face);
        while (call.find()) {
            String line = call.group().replace(";", " {");
            Check.due("as the document writes it: " + line, source.contains("\n    " + line + "\n"), true);
        }
    }

    /** Each promise of a call tells it as the face does. */
    private static void promises(String document, String face) {
        Matcher told = Pattern.compile("## Promise \\d+: \\w+\\s+`((?:int|long|boolean) \\w+\\([^)]*\\))`:").matcher(document);
        int count = 0;
        while (told.find()) {
            count++;
            Check.due("in the face: " + told.group(1), face.contains("public " + told.group(1) + ";"), true);
        }
        Check.due("promises of calls", count, 42);
    }

    /** The calls stand in the document's order, each behind the heading that the document tells. */
    private static void headings(String document, String source) {
        Matcher ahead = AHEAD.matcher(document);
        int place = 0;
        int groups = 0;
        while (ahead.find()) {
            groups++;
            String heading = "    // ---- " + ahead.group(2) + "\n";
            int from = source.indexOf(heading);
            Check.due("stands in the class: " + ahead.group(2), from > place, true);
            int next = source.indexOf("    // ---- ", from + 1);
            place = from;
            for (String name : ahead.group(1).replace("`", "").split(", ")) {
                int at = indexOfCall(source, name);
                Check.due(name + " stands under " + ahead.group(2), at > place && at < next, true);
                place = at;
            }
        }
        Check.due("headings", groups, 8);
        for (String name : Arrays.asList("status", "top", "bottom")) {
            Check.due(name + " stands ahead of all headings", indexOfCall(source, name) < source.indexOf("    // ---- "), true);
        }
    }

    private static int indexOfCall(String source, String name) {
        Matcher call = Pattern.compile("\n    public \\w+ " + name + "\\(").matcher(source);
        return call.find() ? call.start() : -1;
    }

    /** What equals, hashCode and toString do is free: so they are those that every object has. */
    private static void nothingBeside() {
        Check.due("it is no other class's", HailHill.class.getSuperclass() == Object.class, true);
        Check.due("it is no interface's", HailHill.class.getInterfaces().length, 0);
        for (Class<?> inside : HailHill.class.getDeclaredClasses()) {
            Check.due("private: " + inside.getName(), Modifier.isPrivate(inside.getModifiers()), true);
            for (Method m : inside.getDeclaredMethods()) {
                boolean own = !Arrays.asList("equals", "hashCode", "toString").contains(m.getName());
                Check.due("no such call of its own: " + inside.getName() + "." + m.getName(), own, true);
            }
        }
    }
}
