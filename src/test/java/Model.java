import java.math.BigInteger;
import java.util.ArrayList;
import java.util.Arrays;
import java.util.HashMap;
import java.util.List;
import java.util.Map;

/**
 * The document once more, written as plainly as can be and with other means than HailHill (lists,
 * exceptions, no rows kept), so that ModelTest can hold the two against one another.
 */
final class Model {
    static final int NONE = -1;
    static final List<String> RESERVED = Arrays.asList("strip", "at", "gives", "soil", "hail", "to",
        "frost", "dry", "blight", "family", "need", "holds", "takes", "odds");

    static final class Refusal extends RuntimeException {
        private static final long serialVersionUID = 1;
        final int status;

        Refusal(int status) {
            super(null, null, false, false);
            this.status = status;
        }
    }

    static final class Fault extends RuntimeException {
        private static final long serialVersionUID = 1;
        final int kind;
        final int place;

        Fault(int kind, int place) {
            super(null, null, false, false);
            this.kind = kind;
            this.place = place;
        }
    }

    static final class Strip {
        String name;
        int x, y, gives, soil = 1, owner = NONE;
    }

    static final class Harm {
        int sort, low, high, takes, odds;
    }

    static final class Family {
        String name;
        int x, y, need;
    }

    static final class World {
        List<Strip> strips = new ArrayList<>();
        List<Harm> harms = new ArrayList<>();
        List<Family> families = new ArrayList<>();
        int pace = 10, hunger = 1;

        World copy() {
            World w = new World();
            for (Strip s : strips) {
                Strip t = new Strip();
                t.name = s.name; t.x = s.x; t.y = s.y; t.gives = s.gives; t.soil = s.soil; t.owner = s.owner;
                w.strips.add(t);
            }
            for (Harm h : harms) {
                Harm g = new Harm();
                g.sort = h.sort; g.low = h.low; g.high = h.high; g.takes = h.takes; g.odds = h.odds;
                w.harms.add(g);
            }
            w.families.addAll(families);
            w.pace = pace;
            w.hunger = hunger;
            return w;
        }
    }

    static final class Token {
        final String text;
        final int place;

        Token(String text, int place) {
            this.text = text;
            this.place = place;
        }

        boolean isWord() {
            return text.matches("[a-z]+");
        }

        boolean isNumber() {
            return text.matches("[0-9]{1,2}");
        }

        boolean isToken() {
            return isWord() || isNumber() || text.equals(";") || text.isEmpty();
        }
    }

    private World world = new World();
    private final List<World> marks = new ArrayList<>();
    private final Map<Integer, long[]> trays = new HashMap<>();
    private final Map<Integer, Integer> sorts = new HashMap<>();
    private String tape = "";
    private int status = 0;
    private BigInteger top = BigInteger.ZERO, bottom = BigInteger.ONE;
    private int fault = NONE, faultPlace = NONE;
    private Integer climbed = null;
    private int[] given = null;
    private Map<Integer, int[]> netsKnown = null;

    interface Call {
        long answer();
    }

    private long run(Call call, long refused) {
        try {
            long v = call.answer();
            status = 0;
            return v;
        } catch (Refusal r) {
            status = r.status;
            return refused;
        }
    }

    private static void refuseIf(boolean wrong, int status) {
        if (wrong) {
            throw new Refusal(status);
        }
    }

    private void tell(long a, BigInteger b) {
        BigInteger g = BigInteger.valueOf(a).gcd(b);
        top = BigInteger.valueOf(a).divide(g);
        bottom = b.divide(g);
    }

    private BigInteger whole() {
        return BigInteger.valueOf(16).pow(world.harms.size());
    }

    long status() { return status; }
    long top() { return top.longValueExact(); }
    long bottom() { return bottom.longValueExact(); }

    // ---- trays

    private void askTray(int t) { refuseIf(t < 0 || t > 3, 1); }

    private void askPlace(int t, int place) {
        askTray(t);
        refuseIf(!trays.containsKey(t), 2);
        refuseIf(place < 0 || place >= trays.get(t).length, 3);
    }

    long tray(int t, int sort, int many) {
        return run(() -> {
            askTray(t);
            refuseIf(sort < 0 || sort > 3 || many < 0 || many > 60, 1);
            trays.put(t, new long[many]);
            sorts.put(t, sort);
            return 1;
        }, 0);
    }

    long write(int t, int place, long v) {
        return run(() -> {
            askPlace(t, place);
            int bits = 8 << sorts.get(t);
            trays.get(t)[place] = v << (64 - bits) >> (64 - bits);
            return 1;
        }, 0);
    }

    long read(int t, int place) {
        return run(() -> {
            askPlace(t, place);
            return trays.get(t)[place];
        }, NONE);
    }

    long pour(int from, int place, int to, int at, int many) {
        return run(() -> {
            askTray(from);
            askTray(to);
            refuseIf(place < 0 || at < 0 || many < 0, 1);
            refuseIf(!trays.containsKey(from) || !trays.containsKey(to), 2);
            refuseIf(!sorts.get(from).equals(sorts.get(to)), 8);
            refuseIf((long) place + many > trays.get(from).length, 3);
            refuseIf((long) at + many > trays.get(to).length, 3);
            long[] old = trays.get(from).clone();
            for (int i = 0; i < many; i++) {
                trays.get(to)[at + i] = old[place + i];
            }
            return 1;
        }, 0);
    }

    // ---- the village

    long feed(int... ints) {
        if (tape.length() + 20 > 600) {
            return NONE;
        }
        StringBuilder more = new StringBuilder(tape);
        for (int v : ints) {
            for (byte b : BigInteger.valueOf(v & 0xffffffffL | 1L << 32).toByteArray()) {
                more.append((char) (b & 255));
            }
            more.deleteCharAt(more.length() - 5);
        }
        tape = more.toString();
        return tape.length();
    }

    long village(int n) {
        return run(() -> {
            refuseIf(n < 0 || n > tape.length(), 1);
            String text = tape.substring(0, n);
            tape = "";
            try {
                World told = new Parser(text).parse();
                told.pace = world.pace;
                told.hunger = world.hunger;
                world = told;
                fault = 0;
                faultPlace = NONE;
                return told.strips.size();
            } catch (Fault f) {
                fault = f.kind;
                faultPlace = f.place;
                throw new Refusal(9);
            }
        }, NONE);
    }

    static final class Parser {
        final List<Token> tokens = new ArrayList<>();
        final World told = new World();
        int at = 0;

        Parser(String text) {
            int i = 0;
            while (i < text.length()) {
                int j = i + 1;
                char c = text.charAt(i);
                if (c >= 'a' && c <= 'z') {
                    while (j < text.length() && text.charAt(j) >= 'a' && text.charAt(j) <= 'z') j++;
                } else if (c >= '0' && c <= '9') {
                    while (j < text.length() && text.charAt(j) >= '0' && text.charAt(j) <= '9') j++;
                }
                if (c != 10 && c != 32) {
                    tokens.add(new Token(text.substring(i, j), i));
                }
                i = j;
            }
            tokens.add(new Token("", text.length()));
        }

        Token peek() {
            Token t = tokens.get(at);
            if (!t.isToken()) {
                throw new Fault(1, t.place);
            }
            return t;
        }

        Token take() {
            Token t = peek();
            at++;
            return t;
        }

        void word(String w) {
            Token t = peek();
            if (!t.text.equals(w)) {
                throw new Fault(2, t.place);
            }
            at++;
        }

        Token name() {
            Token t = peek();
            if (!t.isWord() || t.text.length() > 8 || RESERVED.contains(t.text)) {
                throw new Fault(2, t.place);
            }
            return take();
        }

        int number(int low, int high) {
            Token t = peek();
            if (!t.isNumber()) {
                throw new Fault(2, t.place);
            }
            int v = Integer.parseInt(t.text);
            if (v < low || v > high) {
                throw new Fault(4, t.place);
            }
            at++;
            return v;
        }

        World parse() {
            while (!peek().text.isEmpty()) {
                Token t = take();
                int harm = Arrays.asList("hail", "frost", "dry", "blight").indexOf(t.text);
                if (t.text.equals("strip")) {
                    strip(t);
                } else if (t.text.equals("family")) {
                    family(t);
                } else if (harm >= 0) {
                    harm(t, harm);
                } else {
                    throw new Fault(2, t.place);
                }
                word(";");
            }
            return told;
        }

        void strip(Token t) {
            if (told.strips.size() == 10) {
                throw new Fault(5, t.place);
            }
            Strip s = new Strip();
            Token n = name();
            for (Strip other : told.strips) {
                if (other.name.equals(n.text)) {
                    throw new Fault(3, n.place);
                }
            }
            s.name = n.text;
            word("at");
            s.x = number(0, 99);
            s.y = number(0, 99);
            word("gives");
            s.gives = number(1, 99);
            if (peek().text.equals("soil")) {
                take();
                s.soil = number(1, 3);
            }
            told.strips.add(s);
        }

        void harm(Token t, int sort) {
            if (told.harms.size() == 6) {
                throw new Fault(5, t.place);
            }
            Harm h = new Harm();
            h.sort = sort;
            if (sort == 0) {
                h.low = number(0, 99);
                word("to");
                h.high = number(h.low, 99);
            } else if (sort == 1) {
                h.low = number(0, 99);
            } else if (sort == 2) {
                h.low = number(1, 3);
            }
            word("takes");
            h.takes = number(0, 8);
            word("odds");
            h.odds = number(0, 16);
            told.harms.add(h);
        }

        void family(Token t) {
            if (told.families.size() == 4) {
                throw new Fault(5, t.place);
            }
            Family f = new Family();
            Token n = name();
            for (Family other : told.families) {
                if (other.name.equals(n.text)) {
                    throw new Fault(3, n.place);
                }
            }
            f.name = n.text;
            word("at");
            f.x = number(0, 99);
            f.y = number(0, 99);
            word("need");
            f.need = number(0, 99);
            while (peek().text.equals("holds")) {
                take();
                Token held = name();
                Strip found = null;
                for (Strip s : told.strips) {
                    if (s.name.equals(held.text)) {
                        found = s;
                    }
                }
                if (found == null) {
                    throw new Fault(3, held.place);
                }
                if (found.owner != NONE) {
                    throw new Fault(6, held.place);
                }
                found.owner = told.families.size();
            }
            told.families.add(f);
        }
    }

    long fault(int what) {
        return what == 0 ? fault : what == 1 ? faultPlace : NONE;
    }

    long many(int what) {
        return run(() -> {
            refuseIf(what < 0 || what > 2, 1);
            return what == 0 ? world.strips.size() : what == 1 ? world.harms.size() : world.families.size();
        }, NONE);
    }

    private void askStrip(int s) { refuseIf(s < 0 || s >= world.strips.size(), 1); }
    private void askHarm(int h) { refuseIf(h < 0 || h >= world.harms.size(), 1); }
    private void askFamily(int f) { refuseIf(f < 0 || f >= world.families.size(), 1); }
    private void askSet(int set) { refuseIf(set < 0 || set >= Math.pow(2, world.strips.size()), 1); }
    private void askLot(long lot) { refuseIf(lot < 0 || lot >= Math.pow(2, world.harms.size()), 1); }
    private static void askWithin(int v, int low, int high) { refuseIf(v < low || v > high, 1); }
    private static boolean in(int set, int i) { return (set & 1 << i) != 0; }

    long strip(int s, int what) {
        return run(() -> {
            askStrip(s);
            askWithin(what, 0, 4);
            Strip t = world.strips.get(s);
            refuseIf(what == 4 && t.owner == NONE, 6);
            return new int[] {t.x, t.y, t.gives, t.soil, t.owner}[what];
        }, NONE);
    }

    private boolean falls(Harm h, Strip s) {
        if (h.sort == 0) return h.low <= s.x && s.x <= h.high;
        if (h.sort == 1) return s.y < h.low;
        return h.sort == 3 || s.soil == h.low;
    }

    long harm(int h, int what) {
        return run(() -> {
            askHarm(h);
            askWithin(what, 0, 3);
            Harm g = world.harms.get(h);
            int set = 0;
            for (int s = 0; s < world.strips.size(); s++) {
                set += falls(g, world.strips.get(s)) ? 1 << s : 0;
            }
            return new int[] {g.sort, g.takes, g.odds, set}[what];
        }, NONE);
    }

    private int held(int f) {
        int set = 0;
        for (int s = 0; s < world.strips.size(); s++) {
            set += world.strips.get(s).owner == f ? 1 << s : 0;
        }
        return set;
    }

    long family(int f, int what) {
        return run(() -> {
            askFamily(f);
            askWithin(what, 0, 3);
            Family g = world.families.get(f);
            return new int[] {g.x, g.y, g.need, held(f)}[what];
        }, NONE);
    }

    long hold(int s, int f) {
        return run(() -> {
            askStrip(s);
            if (f != NONE) askFamily(f);
            refuseIf(world.strips.get(s).owner == f, 7);
            world.strips.get(s).owner = f;
            return 1;
        }, 0);
    }

    long let(int what, int v) {
        return run(() -> {
            askWithin(what, 0, 1);
            askWithin(v, 1 - what, 99);
            if (what == 0) world.pace = v; else world.hunger = v;
            return 1;
        }, 0);
    }

    long likely(int h, int odds) {
        return run(() -> {
            askHarm(h);
            askWithin(odds, 0, 16);
            world.harms.get(h).odds = odds;
            return 1;
        }, 0);
    }

    // ---- lots, net, worth

    int stripCount() { return world.strips.size(); }
    int harmCount() { return world.harms.size(); }
    int familyCount() { return world.families.size(); }
    private int lots() { return 1 << world.harms.size(); }

    private long weightOf(int lot) {
        long w = 1;
        for (int h = 0; h < world.harms.size(); h++) {
            int odds = world.harms.get(h).odds;
            w *= in(lot, h) ? odds : 16 - odds;
        }
        return w;
    }

    private int leftOf(int s, int lot, int gives) {
        int takes = 0;
        for (int h = 0; h < world.harms.size(); h++) {
            if (in(lot, h) && falls(world.harms.get(h), world.strips.get(s))) {
                takes += world.harms.get(h).takes;
            }
        }
        return (int) Math.floor(gives * (8 - Math.min(8, takes)) / 8.0);
    }

    private int steps(int x, int y, int s) {
        return Math.abs(x - world.strips.get(s).x) + Math.abs(y - world.strips.get(s).y);
    }

    private int roundOf(int f, int set) {
        Family g = world.families.get(f);
        return set == 0 ? 0 : wayHome(g, g.x, g.y, set, new HashMap<>());
    }

    private int wayHome(Family g, int x, int y, int rest, Map<Long, Integer> known) {
        if (rest == 0) {
            return Math.abs(x - g.x) + Math.abs(y - g.y);
        }
        long key = (rest * 100L + x) * 100 + y;
        Integer old = known.get(key);
        if (old != null) {
            return old;
        }
        int best = Integer.MAX_VALUE;
        for (int s = 0; s < world.strips.size(); s++) {
            if (in(rest, s)) {
                Strip t = world.strips.get(s);
                best = Math.min(best, steps(x, y, s) + wayHome(g, t.x, t.y, rest - (1 << s), known));
            }
        }
        known.put(key, best);
        return best;
    }

    private int[] netsOf(int f, int set, int halved) {
        if (netsKnown == null) {
            return reckonNets(f, set, halved);
        }
        return netsKnown.computeIfAbsent((f * 1024 + set) * 8 + halved, k -> reckonNets(f, set, halved));
    }

    private int[] reckonNets(int f, int set, int halved) {
        int cost = Math.floorDiv(roundOf(f, set), world.pace);
        int[] nets = new int[lots()];
        for (int lot = 0; lot < nets.length; lot++) {
            int sum = 0;
            for (int s = 0; s < world.strips.size(); s++) {
                if (in(set, s)) {
                    int gives = world.strips.get(s).gives;
                    for (int i = 0; i < halved; i++) gives /= 2;
                    sum += leftOf(s, lot, gives);
                }
            }
            nets[lot] = Math.max(0, sum - cost);
        }
        return nets;
    }

    private long worthOf(int f, int set) {
        int[] nets = netsOf(f, set, 0);
        long sum = 0;
        for (int lot = 0; lot < lots(); lot++) {
            int lack = Math.max(0, world.families.get(f).need - nets[lot]);
            sum += weightOf(lot) * (nets[lot] - world.hunger * lack);
        }
        return sum;
    }

    private long weightOfHungry(int f, int[] nets) {
        long sum = 0;
        for (int lot = 0; lot < lots(); lot++) {
            sum += nets[lot] < world.families.get(f).need ? weightOf(lot) : 0;
        }
        return sum;
    }

    long weight(int lot) {
        return run(() -> {
            askLot(lot);
            return weightOf(lot);
        }, NONE);
    }

    long left(int s, int lot) {
        return run(() -> {
            askStrip(s);
            askLot(lot);
            return leftOf(s, lot, world.strips.get(s).gives);
        }, NONE);
    }

    long round(int f, int set) {
        return run(() -> {
            askFamily(f);
            askSet(set);
            return roundOf(f, set);
        }, NONE);
    }

    long net(int f, int set, int lot) {
        return run(() -> {
            askFamily(f);
            askSet(set);
            askLot(lot);
            return netsOf(f, set, 0)[lot];
        }, NONE);
    }

    long odds(int f, int set, int v) {
        return run(() -> {
            askFamily(f);
            askSet(set);
            askWithin(v, 0, 9999);
            int[] nets = netsOf(f, set, 0);
            long sum = 0;
            for (int lot = 0; lot < lots(); lot++) {
                sum += nets[lot] <= v ? weightOf(lot) : 0;
            }
            tell(sum, whole());
            return 1;
        }, 0);
    }

    long hungry(int f, int set) {
        return run(() -> {
            askFamily(f);
            askSet(set);
            tell(weightOfHungry(f, netsOf(f, set, 0)), whole());
            return 1;
        }, 0);
    }

    long worth(int f, int set) {
        return run(() -> {
            askFamily(f);
            askSet(set);
            tell(worthOf(f, set), whole());
            return 1;
        }, 0);
    }

    // ---- best

    private int bestOf(int f, int size) {
        int best = NONE;
        long most = 0;
        for (int set = 0; set < 1 << world.strips.size(); set++) {
            boolean open = Integer.bitCount(set) == size;
            for (int s = 0; s < world.strips.size(); s++) {
                int owner = world.strips.get(s).owner;
                open &= !in(set, s) || owner == NONE || owner == f;
            }
            if (open) {
                long w = worthOf(f, set);
                if (best == NONE || w > most) {
                    best = set;
                    most = w;
                }
            }
        }
        refuseIf(best == NONE, 6);
        return best;
    }

    long best(int f, int size) {
        return run(() -> {
            askFamily(f);
            askWithin(size, 1, 6);
            int set = bestOf(f, size);
            tell(worthOf(f, set), whole());
            return set;
        }, NONE);
    }

    long climb(int f) {
        return run(() -> {
            askFamily(f);
            World before = world.copy();
            int count = 0;
            while (true) {
                int now = held(f), found = now;
                long most = worthOf(f, now);
                int gift = NONE, gain = NONE;
                for (int a = 0; a < world.strips.size(); a++) {
                    for (int b = 0; b < world.strips.size(); b++) {
                        if (in(now, a) && world.strips.get(b).owner == NONE) {
                            int set = now - (1 << a) + (1 << b);
                            long w = worthOf(f, set);
                            if (w > most || w == most && found != now && set < found) {
                                most = w;
                                found = set;
                                gift = a;
                                gain = b;
                            }
                        }
                    }
                }
                if (found == now) {
                    break;
                }
                world.strips.get(gift).owner = NONE;
                world.strips.get(gain).owner = f;
                count++;
            }
            int reached = held(f);
            world = before;
            climbed = count;
            tell(worthOf(f, reached), whole());
            return reached;
        }, NONE);
    }

    long climbed() {
        return run(() -> {
            refuseIf(climbed == null, 6);
            return climbed;
        }, NONE);
    }

    long edge(int f, int size) {
        return run(() -> {
            askFamily(f);
            askWithin(size, 1, 6);
            int old = world.hunger;
            // NETS are the same for every HUNGER, and 99 times over they would take long.
            netsKnown = new HashMap<>();
            try {
                world.hunger = 0;
                int calm = bestOf(f, size);
                for (int h = 1; h <= 99; h++) {
                    world.hunger = h;
                    if (bestOf(f, size) != calm) {
                        return h;
                    }
                }
            } finally {
                world.hunger = old;
                netsKnown = null;
            }
            throw new Refusal(6);
        }, NONE);
    }

    long change(int f, int size, int h, int odds) {
        return run(() -> {
            askFamily(f);
            askWithin(size, 1, 6);
            askHarm(h);
            askWithin(odds, 0, 16);
            int now = bestOf(f, size);
            int old = world.harms.get(h).odds;
            world.harms.get(h).odds = odds;
            int then = bestOf(f, size);
            world.harms.get(h).odds = old;
            return now == then ? 0 : 1;
        }, NONE);
    }

    // ---- beside

    long beside(int f, int barn, int cousin, int harm, int premium, int cover) {
        return run(() -> {
            askFamily(f);
            askWithin(barn, 0, 999);
            if (cousin != NONE) askFamily(cousin);
            refuseIf(cousin == f, 1);
            if (harm != NONE) askHarm(harm);
            askWithin(premium, 0, 99);
            askWithin(cover, 0, 99);
            int need = world.families.get(f).need;
            int[] nets = netsOf(f, held(f), 0);
            int[] others = cousin == NONE ? null : netsOf(cousin, held(cousin), 0);
            long sum = 0;
            for (int one = 0; one < lots(); one++) {
                for (int two = 0; two < lots(); two++) {
                    int first = nets[one], second = nets[two];
                    if (harm != NONE) {
                        first = Math.max(0, first - premium) + (in(one, harm) ? cover : 0);
                        second = Math.max(0, second - premium) + (in(two, harm) ? cover : 0);
                    }
                    int above = first > need ? first - need : 0;
                    int laid = Math.min(above, barn);
                    second += laid - (int) Math.ceil(laid / 2.0);
                    if (second < need && others != null) {
                        int spare = Math.max(0, others[two] - world.families.get(cousin).need);
                        second += Math.min(spare, need - second);
                    }
                    sum += second < need ? weightOf(one) * weightOf(two) : 0;
                }
            }
            tell(sum, whole().multiply(whole()));
            return 1;
        }, 0);
    }

    // ---- swaps

    private boolean grows(int f, int gift, int gain) {
        int now = held(f);
        return worthOf(f, now - (1 << gift) + (1 << gain)) > worthOf(f, now);
    }

    private List<int[]> swapsOf(int one, int other) {
        List<int[]> found = new ArrayList<>();
        for (int a = 0; a < world.strips.size(); a++) {
            for (int b = 0; b < world.strips.size(); b++) {
                if (in(held(one), a) && in(held(other), b) && grows(one, a, b) && grows(other, b, a)) {
                    found.add(new int[] {a, b});
                }
            }
        }
        return found;
    }

    long swaps(int one, int other) {
        return run(() -> {
            askFamily(one);
            askFamily(other);
            refuseIf(one == other, 1);
            return swapsOf(one, other).size();
        }, NONE);
    }

    long swap(int one, int other, int k, int what) {
        return run(() -> {
            askFamily(one);
            askFamily(other);
            refuseIf(one == other || k < 0, 1);
            askWithin(what, 0, 1);
            List<int[]> found = swapsOf(one, other);
            refuseIf(k >= found.size(), 6);
            return found.get(k)[what];
        }, NONE);
    }

    long ring(int one, int two, int three, int what) {
        return run(() -> {
            askFamily(one);
            askFamily(two);
            askFamily(three);
            refuseIf(one == two || one == three || two == three, 1);
            askWithin(what, 0, 2);
            int n = world.strips.size();
            for (int i = 0; i < n * n * n; i++) {
                int a = i / n / n, b = i / n % n, c = i % n;
                if (in(held(one), a) && in(held(two), b) && in(held(three), c)
                    && grows(one, a, c) && grows(two, b, a) && grows(three, c, b)) {
                    return new int[] {a, b, c}[what];
                }
            }
            throw new Refusal(6);
        }, NONE);
    }

    long settle() {
        return run(() -> {
            int done = 0;
            while (done < 100 && settleOnce()) {
                done++;
            }
            return done;
        }, NONE);
    }

    private boolean settleOnce() {
        for (int one = 0; one < world.families.size(); one++) {
            for (int other = one + 1; other < world.families.size(); other++) {
                List<int[]> found = swapsOf(one, other);
                if (!found.isEmpty()) {
                    world.strips.get(found.get(0)[0]).owner = other;
                    world.strips.get(found.get(0)[1]).owner = one;
                    return true;
                }
            }
        }
        return false;
    }

    // ---- given, narrow, together, years

    long give(int kind) {
        return run(() -> {
            askWithin(kind, 0, 1);
            int n = world.strips.size(), m = world.families.size();
            refuseIf(n > 8 || m > 3, 4);
            refuseIf(m == 0, 6);
            int[][][] nets = new int[m][1 << n][];
            for (int f = 0; f < m; f++) {
                for (int set = 0; set < 1 << n; set++) {
                    nets[f][set] = netsOf(f, set, 0);
                }
            }
            long least = Long.MAX_VALUE;
            for (int way = 0; way < Math.pow(m, n); way++) {
                int[] to = new int[n];
                int[] sets = new int[m];
                int rest = way;
                for (int s = n - 1; s >= 0; s--) {
                    to[s] = rest % m;
                    sets[to[s]] += 1 << s;
                    rest /= m;
                }
                long v = 0;
                for (int lot = 0; lot < lots(); lot++) {
                    int count = 0;
                    for (int f = 0; f < m; f++) {
                        count += nets[f][sets[f]][lot] < world.families.get(f).need ? 1 : 0;
                    }
                    long w = weightOf(lot);
                    v = kind == 0 ? v + w * count : w > 0 ? Math.max(v, count) : v;
                }
                if (v < least) {
                    least = v;
                    given = to;
                }
            }
            tell(least, kind == 0 ? whole() : BigInteger.ONE);
            return 1;
        }, 0);
    }

    long given(int s) {
        return run(() -> {
            refuseIf(given == null, 6);
            refuseIf(s < 0 || s >= given.length, 1);
            return given[s];
        }, NONE);
    }

    long narrow(int f, int of) {
        return run(() -> {
            askFamily(f);
            askWithin(of, 1, 16);
            for (int times = 0; times <= 6; times++) {
                BigInteger hungry = BigInteger.valueOf(weightOfHungry(f, netsOf(f, held(f), times)));
                BigInteger wanted = whole().multiply(BigInteger.valueOf(of));
                if (hungry.multiply(BigInteger.valueOf(16)).compareTo(wanted) >= 0) {
                    return times;
                }
            }
            throw new Refusal(6);
        }, NONE);
    }

    private List<Integer> owned() {
        List<Integer> all = new ArrayList<>();
        for (int s = 0; s < world.strips.size(); s++) {
            if (world.strips.get(s).owner != NONE) {
                all.add(s);
            }
        }
        return all;
    }

    private int[] deal(List<Integer> row) {
        int[] sets = new int[world.families.size()];
        int at = 0;
        for (int f = 0; f < sets.length; f++) {
            for (int i = Integer.bitCount(held(f)); i > 0; i--) {
                sets[f] += 1 << row.get(at++);
            }
        }
        return sets;
    }

    long together() {
        return run(() -> {
            List<Integer> row = owned();
            row.sort((s, t) -> {
                Strip a = world.strips.get(s), b = world.strips.get(t);
                return (a.x * 10000 + a.y * 100 + s) - (b.x * 10000 + b.y * 100 + t);
            });
            int[] sets = deal(row);
            int less = 0;
            for (int f = 0; f < sets.length; f++) {
                less += worthOf(f, sets[f]) < worthOf(f, held(f)) ? 1 << f : 0;
            }
            return less;
        }, NONE);
    }

    private int hungryYears(int f, int set, int t, int many) {
        int[] nets = netsOf(f, set, 0);
        int count = 0;
        for (int i = 0; i < many; i++) {
            count += nets[(int) trays.get(t)[i]] < world.families.get(f).need ? 1 : 0;
        }
        return count;
    }

    private void askYears(int f, int t, int many) {
        askFamily(f);
        askTray(t);
        askWithin(many, 1, 60);
        refuseIf(!trays.containsKey(t), 2);
        refuseIf(trays.get(t).length < many, 3);
        for (int i = 0; i < many; i++) {
            askLot(trays.get(t)[i]);
        }
    }

    long starved(int f, int t, int many) {
        return run(() -> {
            askYears(f, t, many);
            return hungryYears(f, held(f), t, many);
        }, NONE);
    }

    long luck(int f, int t, int many, int seed, int deals) {
        return run(() -> {
            askWithin(seed, 0, 9999);
            askWithin(deals, 1, 100);
            askYears(f, t, many);
            int now = hungryYears(f, held(f), t, many);
            long s = seed;
            int count = 0;
            for (int d = 0; d < deals; d++) {
                List<Integer> row = owned();
                for (int places = row.size(); places >= 2; places--) {
                    s = (s * 4093 + 15731) % 65536;
                    int other = (int) (s / 8 % places);
                    Integer moved = row.get(places - 1);
                    row.set(places - 1, row.get(other));
                    row.set(other, moved);
                }
                count += hungryYears(f, deal(row)[f], t, many) < now ? 1 : 0;
            }
            return count;
        }, NONE);
    }

    // ---- marks

    long mark() {
        return run(() -> {
            refuseIf(marks.size() == 3, 4);
            marks.add(world.copy());
            return marks.size();
        }, NONE);
    }

    long back() {
        return run(() -> {
            refuseIf(marks.isEmpty(), 6);
            world = marks.remove(marks.size() - 1);
            return marks.size();
        }, NONE);
    }
}
