import java.util.Random;

/** Runs of calls drawn by a seed, on HailHill and on Model: every answer must be the same. */
public final class ModelTest {
    private static final int RUNS = 400;
    private static final int CALLS = 500;

    private final Random random;
    private final HailHill hill = new HailHill();
    private final Model model = new Model();
    private final StringBuilder log = new StringBuilder();
    private int calls = 0;

    private ModelTest(long seed) {
        random = new Random(seed);
    }

    public static void main(String[] args) {
        int runs = args.length > 0 ? Integer.parseInt(args[0]) : RUNS;
        int from = args.length > 1 ? Integer.parseInt(args[1]) : 0;
        for (int seed = from; seed < from + runs; seed++) {
            new ModelTest(seed).run(seed);
        }
        Check.end();
    }

    private void run(int seed) {
        bringVillage();
        for (int t = 0; t < 3; t++) {
            layYears(t);
        }
        while (calls < CALLS) {
            if (!callOnce()) {
                System.out.println("seed " + seed + ", calls as they were:\n" + log);
                Check.due("the last call", 0, 1);
                return;
            }
        }
        Check.due("a run", 0, 0);
    }

    private boolean chance(int percent) {
        return random.nextInt(100) < percent;
    }

    private int from(int low, int high) {
        return low + random.nextInt(high - low + 1);
    }

    /** A number that may be mostly, now and then one beside the edge or far off. */
    private int number(int low, int high) {
        if (chance(4)) {
            int[] odd = {low - 1, high + 1, -1, Integer.MIN_VALUE, Integer.MAX_VALUE, low, high};
            return odd[random.nextInt(odd.length)];
        }
        return high < low ? low : from(low, high);
    }

    private int strip() {
        return number(0, model.stripCount() - 1);
    }

    private int harm() {
        return number(0, model.harmCount() - 1);
    }

    private int family() {
        return number(0, model.familyCount() - 1);
    }

    private int familyOrNone() {
        return chance(25) ? HailHill.NONE : family();
    }

    private int set() {
        return number(0, (1 << model.stripCount()) - 1);
    }

    private int lot() {
        return number(0, (1 << model.harmCount()) - 1);
    }

    private boolean same(String call, boolean got, long want) {
        return same(call, got ? 1 : 0, want);
    }

    private boolean same(String call, long got, long want) {
        calls++;
        log.append(call).append(" -> ").append(got).append('\n');
        if (got == want && hill.status() == model.status() && hill.top() == model.top()
            && hill.bottom() == model.bottom()) {
            return true;
        }
        log.append("  due ").append(want).append(", status ").append(hill.status()).append(" due ")
            .append(model.status()).append(", fraction ").append(hill.top()).append('/').append(hill.bottom())
            .append(" due ").append(model.top()).append('/').append(model.bottom()).append('\n');
        return false;
    }

    private boolean callOnce() {
        int i = random.nextInt(100);
        if (i < 4) return bringVillage() && (chance(40) || layYears(0));
        if (i < 22) return askTrays();
        if (i < 40) return askVillage();
        if (i < 60) return askLots();
        if (i < 75) return askBest();
        if (i < 85) return askSwaps();
        if (i < 96) return askYears();
        return askMarks();
    }

    private boolean bringVillage() {
        String text = new VillageText(random).text();
        boolean same = true;
        for (int from = 0; from < text.length() || chance(3); from += 20) {
            int[] v = new int[5];
            for (int i = 0; i < 20; i++) {
                int c = from + i < text.length() ? text.charAt(from + i) : 0;
                v[i / 4] = v[i / 4] << 8 | c;
            }
            same &= same("feed", hill.feed(v[0], v[1], v[2], v[3], v[4]), model.feed(v));
        }
        int n = number(text.length(), text.length());
        log.append(text).append('\n');
        same &= same("village(" + n + ")", hill.village(n), model.village(n));
        for (int what = -1; what <= 2; what++) {
            same &= same("fault(" + what + ")", hill.fault(what), model.fault(what));
        }
        return same;
    }

    private boolean layYears(int t) {
        int sort = from(0, 3);
        int many = from(30, 60);
        boolean same = same("tray(" + t + ", " + sort + ", " + many + ")", hill.tray(t, sort, many), model.tray(t, sort, many));
        for (int p = 0; p < many && chance(97); p++) {
            int lot = from(0, (1 << model.harmCount()) - 1);
            same &= same("write(" + t + ", " + p + ", " + lot + ")", hill.write(t, p, lot), model.write(t, p, lot));
        }
        return same;
    }

    private boolean askTrays() {
        int t = number(0, 3);
        int p = number(0, 60);
        switch (random.nextInt(5)) {
            case 0: {
                int sort = number(0, 3);
                int many = chance(50) ? 60 : number(0, 60);
                return same("tray(" + t + ", " + sort + ", " + many + ")", hill.tray(t, sort, many), model.tray(t, sort, many));
            }
            case 1:
            case 2: {
                long v = chance(80) ? lot() : random.nextLong() >> random.nextInt(60);
                return same("write(" + t + ", " + p + ", " + v + ")", hill.write(t, p, v), model.write(t, p, v));
            }
            case 3:
                return same("read(" + t + ", " + p + ")", hill.read(t, p), model.read(t, p));
            default: {
                int to = chance(50) ? t : number(0, 3);
                int at = number(0, 60);
                int many = number(0, 20);
                return same("pour(" + t + ", " + p + ", " + to + ", " + at + ", " + many + ")",
                    hill.pour(t, p, to, at, many), model.pour(t, p, to, at, many));
            }
        }
    }

    private boolean askVillage() {
        int what = number(0, 3);
        switch (random.nextInt(7)) {
            case 0:
                return same("many(" + what + ")", hill.many(what), model.many(what));
            case 1: {
                int s = strip();
                what = number(0, 4);
                return same("strip(" + s + ", " + what + ")", hill.strip(s, what), model.strip(s, what));
            }
            case 2: {
                int h = harm();
                return same("harm(" + h + ", " + what + ")", hill.harm(h, what), model.harm(h, what));
            }
            case 3: {
                int f = family();
                return same("family(" + f + ", " + what + ")", hill.family(f, what), model.family(f, what));
            }
            case 4: {
                int s = strip();
                int f = familyOrNone();
                return same("hold(" + s + ", " + f + ")", hill.hold(s, f), model.hold(s, f));
            }
            case 5: {
                what = number(0, 1);
                int v = chance(50) ? number(0, 99) : number(0, 5);
                return same("let(" + what + ", " + v + ")", hill.let(what, v), model.let(what, v));
            }
            default: {
                int h = harm();
                int odds = number(0, 16);
                return same("likely(" + h + ", " + odds + ")", hill.likely(h, odds), model.likely(h, odds));
            }
        }
    }

    private boolean askLots() {
        int f = family();
        int set = set();
        int lot = lot();
        switch (random.nextInt(7)) {
            case 0:
                return same("weight(" + lot + ")", hill.weight(lot), model.weight(lot));
            case 1: {
                int s = strip();
                return same("left(" + s + ", " + lot + ")", hill.left(s, lot), model.left(s, lot));
            }
            case 2:
                return same("round(" + f + ", " + set + ")", hill.round(f, set), model.round(f, set));
            case 3:
                return same("net(" + f + ", " + set + ", " + lot + ")", hill.net(f, set, lot), model.net(f, set, lot));
            case 4: {
                int v = chance(90) ? number(0, 200) : number(0, 9999);
                return same("odds(" + f + ", " + set + ", " + v + ")", hill.odds(f, set, v), model.odds(f, set, v));
            }
            case 5:
                return same("hungry(" + f + ", " + set + ")", hill.hungry(f, set), model.hungry(f, set));
            default:
                return same("worth(" + f + ", " + set + ")", hill.worth(f, set), model.worth(f, set));
        }
    }

    private boolean askBest() {
        int f = family();
        int size = number(1, 6);
        switch (random.nextInt(6)) {
            case 0:
                return same("best(" + f + ", " + size + ")", hill.best(f, size), model.best(f, size));
            case 1:
                return same("climb(" + f + ")", hill.climb(f), model.climb(f))
                    && same("climbed()", hill.climbed(), model.climbed());
            case 2:
                return same("climbed()", hill.climbed(), model.climbed());
            case 3:
                return same("edge(" + f + ", " + size + ")", hill.edge(f, size), model.edge(f, size));
            case 4: {
                int h = harm();
                int odds = number(0, 16);
                return same("change(" + f + ", " + size + ", " + h + ", " + odds + ")",
                    hill.change(f, size, h, odds), model.change(f, size, h, odds));
            }
            default: {
                int barn = chance(50) ? 0 : chance(80) ? number(0, 60) : number(0, 999);
                int cousin = familyOrNone();
                int h = chance(50) ? HailHill.NONE : harm();
                int premium = chance(70) ? number(0, 9) : number(0, 99);
                int cover = number(0, 99);
                return same("beside(" + f + ", " + barn + ", " + cousin + ", " + h + ", " + premium + ", " + cover + ")",
                    hill.beside(f, barn, cousin, h, premium, cover), model.beside(f, barn, cousin, h, premium, cover));
            }
        }
    }

    private boolean askSwaps() {
        int one = family();
        int other = family();
        switch (random.nextInt(4)) {
            case 0:
                return same("swaps(" + one + ", " + other + ")", hill.swaps(one, other), model.swaps(one, other));
            case 1: {
                int k = number(0, 2);
                int what = number(0, 1);
                return same("swap(" + one + ", " + other + ", " + k + ", " + what + ")",
                    hill.swap(one, other, k, what), model.swap(one, other, k, what));
            }
            case 2: {
                int three = family();
                int what = number(0, 2);
                return same("ring(" + one + ", " + other + ", " + three + ", " + what + ")",
                    hill.ring(one, other, three, what), model.ring(one, other, three, what));
            }
            default:
                return chance(60) || same("settle()", hill.settle(), model.settle());
        }
    }

    private boolean askYears() {
        int f = family();
        int t = number(0, 3);
        int many = number(1, 60);
        switch (random.nextInt(7)) {
            case 0: {
                int kind = number(0, 1);
                return model.stripCount() > 6 && chance(80)
                    || same("give(" + kind + ")", hill.give(kind), model.give(kind));
            }
            case 1: {
                int s = number(0, 8);
                return same("given(" + s + ")", hill.given(s), model.given(s));
            }
            case 2: {
                int of = number(1, 16);
                return same("narrow(" + f + ", " + of + ")", hill.narrow(f, of), model.narrow(f, of));
            }
            case 3:
                return same("together()", hill.together(), model.together());
            case 4:
                return same("starved(" + f + ", " + t + ", " + many + ")", hill.starved(f, t, many), model.starved(f, t, many));
            default: {
                int seed = number(0, 9999);
                int deals = chance(70) ? number(1, 10) : number(1, 100);
                return same("luck(" + f + ", " + t + ", " + many + ", " + seed + ", " + deals + ")",
                    hill.luck(f, t, many, seed, deals), model.luck(f, t, many, seed, deals));
            }
        }
    }

    private boolean askMarks() {
        return chance(50) ? same("mark()", hill.mark(), model.mark()) : same("back()", hill.back(), model.back());
    }
}
