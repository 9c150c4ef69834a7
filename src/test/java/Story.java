import java.util.ArrayList;
import java.util.List;

/** Calls that bring a new object into a state, as often as one is wanted; a longer story is another one. */
final class Story {
    /** Of no other text: every number in it can be told from its neighbours by some answer. */
    static final String RICH_TEXT = "strip a at 1 2 gives 40;strip b at 30 4 gives 30 soil 2;"
        + "strip c at 9 60 gives 50 soil 3;hail 0 to 9 takes 8 odds 5;frost 9 takes 4 odds 3;"
        + "family x at 0 0 need 20 holds a;family y at 40 9 need 10 holds b;";

    private final List<String> names = new ArrayList<>();
    private final List<long[]> givens = new ArrayList<>();

    private Story() {
    }

    static Story fresh() {
        return new Story();
    }

    static Story of(String text) {
        return new Story().village(text);
    }

    /**
     * Nothing in it is as at first: PACE 6, HUNGER 3, two MARKS, TRAYS 0 and 1 (sort 0), 2 (sort 2), 3
     * MISSING, a FAULT told, a FRACTION, climbed(), given(); three STRIPS (the last nobody's), two HARMS,
     * two FAMILIES; an empty tape.
     */
    static Story rich() {
        return of(RICH_TEXT).then("let", 0, 7).then("let", 1, 2).then("mark").then("hold", 2, 0)
            .then("likely", 1, 9).then("mark").then("let", 0, 6).then("let", 1, 3).then("hold", 2, -1)
            .then("tray", 0, 0, 3).then("write", 0, 0, 1).then("write", 0, 1, 2).then("write", 0, 2, 3)
            .then("tray", 1, 0, 5).then("write", 1, 0, 3).then("write", 1, 4, -7)
            .then("tray", 2, 2, 4).then("write", 2, 1, 2).then("write", 2, 3, 100000)
            .then("climb", 0).then("give", 0).village("strip a at 1 1 gives 1 soil 9;").then("worth", 0, 1);
    }

    /** As rich(), with a good text on the tape, which is 40 bytes long. */
    static Story richWithTape() {
        return rich().fed("strip q at 3 4 gives 5;                 ");
    }

    Story then(String name, long... args) {
        Story longer = new Story();
        longer.names.addAll(names);
        longer.givens.addAll(givens);
        longer.names.add(name);
        longer.givens.add(args);
        return longer;
    }

    Story fed(String text) {
        Story longer = this;
        for (int from = 0; from < text.length(); from += 20) {
            long[] five = new long[5];
            for (int i = 0; i < 20; i++) {
                int c = from + i < text.length() ? text.charAt(from + i) & 255 : 0;
                five[i / 4] = (int) (five[i / 4] << 8 | c);
            }
            longer = longer.then("feed", five);
        }
        return longer;
    }

    Story village(String text) {
        return fed(text).then("village", text.length());
    }

    HailHill make() {
        HailHill hill = new HailHill();
        for (int i = 0; i < names.size(); i++) {
            Face.call(hill, names.get(i), givens.get(i));
        }
        return hill;
    }
}
