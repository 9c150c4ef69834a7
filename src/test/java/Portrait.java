import java.util.ArrayList;
import java.util.LinkedHashMap;
import java.util.List;
import java.util.Map;

/** All that can be asked of an object, in parts; to ask it uses the object up. */
final class Portrait {
    static final String FRACTION = "FRACTION";
    static final String FAULT = "FAULT";
    static final String CLIMBED = "CLIMBED";
    static final String GIVEN = "GIVEN";
    static final String TRAYS = "TRAYS";
    static final String LAND = "LAND";
    static final String MARKS = "MARKS";
    static final String TAPE = "TAPE";

    private final HailHill hill;
    private final Map<String, List<String>> parts = new LinkedHashMap<>();
    private List<String> rows;

    private Portrait(HailHill hill) {
        this.hill = hill;
    }

    static Map<String, List<String>> of(HailHill hill) {
        Portrait portrait = new Portrait(hill);
        portrait.askWhatWasTold();
        portrait.askTrays();
        portrait.begin(LAND);
        portrait.askLand();
        portrait.askMarks();
        portrait.askTape();
        return portrait.parts;
    }

    private void begin(String part) {
        rows = new ArrayList<>();
        parts.put(part, rows);
    }

    private long ask(String name, long... args) {
        long answer = Face.call(hill, name, args);
        rows.add(Face.told(name, args) + " -> " + answer + (Face.hasStatus(name) ? ", status " + hill.status() : ""));
        return answer;
    }

    private void askWhatWasTold() {
        begin(FRACTION);
        ask("top");
        ask("bottom");
        begin(FAULT);
        ask("fault", 0);
        ask("fault", 1);
        begin(CLIMBED);
        ask("climbed");
        begin(GIVEN);
        for (int s = 0; s <= 8; s++) {
            ask("given", s);
        }
    }

    private void askTrays() {
        begin(TRAYS);
        for (int t = 0; t <= 3; t++) {
            int place = 0;
            do {
                ask("read", t, place);
                place++;
            } while (hill.status() == 0);
            // None are poured; it is asked for the sorts' sake.
            for (int u = 0; u <= 3; u++) {
                ask("pour", t, 0, u, 0, 0);
            }
        }
    }

    private void askLand() {
        long strips = ask("many", 0);
        long harms = ask("many", 1);
        long families = ask("many", 2);
        for (int s = 0; s < strips; s++) {
            for (int what = 0; what <= 4; what++) {
                ask("strip", s, what);
            }
        }
        for (int h = 0; h < harms; h++) {
            for (int what = 0; what <= 3; what++) {
                ask("harm", h, what);
            }
        }
        for (int f = 0; f < families; f++) {
            for (int what = 0; what <= 3; what++) {
                ask("family", f, what);
            }
            // By these PACE and HUNGER can be told.
            ask("net", f, (1L << strips) - 1, 0);
            ask("worth", f, 0);
            ask("top");
        }
    }

    private void askMarks() {
        begin(MARKS);
        if (ask("mark") != HailHill.NONE) {
            hill.back();
        }
        for (int i = 0; i <= 3 && ask("back") != HailHill.NONE; i++) {
            askLand();
        }
    }

    private void askTape() {
        begin(TAPE);
        long grown = ask("feed", 0, 0, 0, 0, 0);
        ask("village", grown == HailHill.NONE ? 600 : grown - 20);
        ask("fault", 0);
        ask("fault", 1);
        askLand();
    }
}
