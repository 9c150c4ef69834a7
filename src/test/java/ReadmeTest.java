import java.io.IOException;
import java.nio.file.Files;
import java.nio.file.Paths;
import java.util.regex.Matcher;
import java.util.regex.Pattern;

/** What README.md shows can be called as it stands there, and answers what it says; the files that it names are there. */
public final class ReadmeTest {
    private static final Pattern CALL = Pattern.compile("(int \\w+ = )?hill\\.(\\w+)\\(([^)]*)\\);(?:\\s*// (-?\\d+))?");

    public static void main(String[] args) throws IOException {
        String readme = Files.readString(Paths.get("README.md"));
        example(readme);
        for (String file : new String[] {".ci/run", "NOTES.md", "src/main/java/HailHill.java"}) {
            Check.due("README.md names " + file, readme.contains(file), true);
            Check.due("there is " + file, Files.exists(Paths.get(file)), true);
        }
        Check.due(".ci/run can be run", Files.isExecutable(Paths.get(".ci/run")), true);
        Check.end();
    }

    private static void example(String readme) {
        HailHill hill = new HailHill();
        Matcher call = CALL.matcher(readme);
        int answers = 0;
        while (call.find()) {
            String[] written = call.group(3).split(", ");
            long[] given = new long[written.length];
            for (int i = 0; i < given.length; i++) {
                given[i] = Long.decode(written[i]);
            }
            long answer = Face.call(hill, call.group(2), given);
            if (call.group(1) != null) {
                answers++;
                Check.took(call.group(), hill, answer, Long.parseLong(call.group(4)));
            }
        }
        Check.due("answers in the example", answers, 2);
    }
}
