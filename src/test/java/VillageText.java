import java.util.ArrayList;
import java.util.List;
import java.util.Random;

/** Draws the text of a VILLAGE: mostly a good one, now and then one with something changed. */
final class VillageText {
    private static final String[] SPOIL = {"strip", "at", "gives", "soil", "hail", "to", "frost", "dry",
        "blight", "family", "need", "holds", "takes", "odds", ";", "0", "17", "99", "100", "007", "A", "#",
        "a", "b", "abcdefgh", "abcdefghi", "\u00e9", "\t", "4", "9"};

    private final Random random;
    private final List<String> parts = new ArrayList<>();

    VillageText(Random random) {
        this.random = random;
    }

    String text() {
        int span = random.nextInt(3) == 0 ? 100 : 3 + random.nextInt(30);
        int strips = random.nextInt(random.nextInt(40) == 0 ? 12 : 11);
        int harms = random.nextInt(random.nextInt(40) == 0 ? 8 : 7);
        int families = random.nextInt(10) == 0 ? random.nextInt(6) : 2 + random.nextInt(3);
        // STRIPS that give alike make swaps and rings likelier.
        boolean alike = random.nextBoolean();
        int least = alike ? 20 : 1;
        int most = alike ? 24 : 99;
        for (int i = 0; i < strips; i++) {
            put("strip", stripName(i), "at", span(span), span(span), "gives", number(least, most));
            if (random.nextInt(3) == 0) {
                put("soil", number(1, 3));
            }
            put(";");
        }
        for (int i = 0; i < harms; i++) {
            putHarm(span);
        }
        putFamilies(families, strips, span);
        return joined(random.nextInt(100) < 30 ? spoilt() : parts);
    }

    private void putFamilies(int families, int strips, int span) {
        int[] owners = new int[strips];
        for (int s = 0; s < strips; s++) {
            owners[s] = random.nextInt(4) == 0 ? -1 : random.nextInt(families + 1);
        }
        for (int f = 0; f < families; f++) {
            put("family", "" + (char) ('k' + f), "at", span(span), span(span), "need", number(0, 99));
            for (int s = 0; s < strips; s++) {
                if (owners[s] == f) {
                    put("holds", stripName(s));
                }
            }
            put(";");
        }
    }

    private void putHarm(int span) {
        switch (random.nextInt(4)) {
            case 0: {
                int low = random.nextInt(span);
                put("hail", "" + low, "to", "" + (low + random.nextInt(100 - low)));
                break;
            }
            case 1:
                put("frost", span(span));
                break;
            case 2:
                put("dry", number(1, 3));
                break;
            default:
                put("blight");
                break;
        }
        put("takes", number(0, 8), "odds", number(0, 16), ";");
    }

    private void put(String... more) {
        for (String one : more) {
            parts.add(one);
        }
    }

    private static String stripName(int i) {
        return "" + (char) ('a' + i);
    }

    private String span(int span) {
        return "" + random.nextInt(span);
    }

    private String number(int low, int high) {
        return "" + (low + random.nextInt(high - low + 1));
    }

    private List<String> spoilt() {
        List<String> all = new ArrayList<>(parts);
        for (int i = random.nextInt(2); i >= 0; i--) {
            int at = random.nextInt(all.size() + 1);
            String other = SPOIL[random.nextInt(SPOIL.length)];
            int how = random.nextInt(7);
            if (how == 0 || at == all.size()) {
                all.add(at, other);
            } else if (how == 1) {
                all.remove(at);
            } else if (how == 2) {
                all.set(at, other);
            } else if (how == 3) {
                all.set(at, all.get(random.nextInt(all.size())));
            } else {
                spoilNear(all, at);
            }
        }
        return all;
    }

    /** The first number or NAME from there on becomes another one. */
    private void spoilNear(List<String> all, int at) {
        for (int i = at; i < all.size(); i++) {
            String old = all.get(i);
            if (kind(old.charAt(0)) == 2) {
                all.set(i, number(0, 20));
                return;
            }
            if (old.length() == 1 && kind(old.charAt(0)) == 1) {
                all.set(i, stripName(random.nextInt(13)));
                return;
            }
        }
    }

    /** Blanks stand where two of a kind would grow together, elsewhere by chance. */
    private String joined(List<String> all) {
        StringBuilder text = new StringBuilder();
        boolean wide = random.nextInt(5) == 0;
        for (String one : all) {
            boolean needed = text.length() > 0 && kind(text.charAt(text.length() - 1)) == kind(one.charAt(0));
            if (needed || random.nextInt(wide ? 2 : 4) == 0) {
                text.append(random.nextInt(6) == 0 ? '\n' : ' ');
            }
            text.append(one);
        }
        return text.length() > 600 ? text.substring(0, 600) : text.toString();
    }

    private static int kind(char c) {
        return c >= 'a' && c <= 'z' ? 1 : c >= '0' && c <= '9' ? 2 : 3;
    }
}
