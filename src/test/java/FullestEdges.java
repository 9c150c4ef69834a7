import java.lang.reflect.Method;

/** As many STRIPS, HARMS and FAMILIES as there may be: every call, held against Model. */
final class FullestEdges {
    private static final String TEN = "strip a at 0 0 gives 20;strip b at 9 1 gives 21 soil 2;strip c at 18 2 gives 22 soil 3;"
        + "strip d at 27 3 gives 23;strip e at 36 4 gives 24 soil 2;strip f at 45 5 gives 25 soil 3;strip g at 54 6 gives 26;"
        + "strip h at 63 7 gives 27 soil 2;";
    private static final String MORE = "strip i at 72 8 gives 28;strip j at 81 9 gives 29;";
    private static final String SIX = "hail 0 to 30 takes 8 odds 3;dry 1 takes 4 odds 5;dry 2 takes 3 odds 7;frost 5 takes 2 odds 9;"
        + "blight takes 1 odds 4;dry 3 takes 8 odds 2;";
    private static final String FAMILIES = "family x at 9 9 need 30;family y at 50 0 need 9;family z at 80 9 need 20;";
    private static final String FOURTH = "family w at 0 50 need 5;";
    private static final int[] OWNERS = {1, 0, 2, 0, 3, 1, 2, 0, 1, -1};

    private final HailHill hill = new HailHill();
    private final Model model = new Model();

    private FullestEdges() {
    }

    static void run() {
        Edge.says("STRIPS, at most 10, HARMS (hail, frost, dry, blight), at most 6, FAMILIES, at most 4");
        FullestEdges ten = new FullestEdges();
        ten.bring(TEN + MORE + SIX + FAMILIES + FOURTH);
        for (int s = 0; s < 10; s++) {
            ten.same("hold", s, OWNERS[s]);
        }
        ten.askSets(10, 4);
        ten.askFamilies();
        ten.askYears();
        ten.same("settle");
        ten.askFamilies();
        Edge.says("(at most 8 STRIPS, 3 FAMILIES, one at least)");
        FullestEdges eight = new FullestEdges();
        eight.bring(TEN + SIX + FAMILIES);
        for (int kind = 0; kind <= 1; kind++) {
            eight.same("give", kind);
            for (int s = 0; s < 9; s++) {
                eight.same("given", s);
            }
        }
        oneBehindTheOther();
    }

    private void bring(String text) {
        for (int from = 0; from < text.length(); from += 20) {
            int[] five = new int[5];
            for (int i = 0; i < 20; i++) {
                int c = from + i < text.length() ? text.charAt(from + i) : 0;
                five[i / 4] = five[i / 4] << 8 | c;
            }
            Check.due("feed()", hill.feed(five[0], five[1], five[2], five[3], five[4]), model.feed(five));
        }
        same("village", text.length());
        Check.due("a good text: " + text, hill.status(), 0);
    }

    private void same(String name, long... args) {
        long want = 0;
        for (Method method : Model.class.getDeclaredMethods()) {
            if (method.getName().equals(name)) {
                want = callModel(method, args);
            }
        }
        String told = Face.told(name, args);
        Check.due(told, Face.call(hill, name, args), want);
        Check.due(told + ", its status", hill.status(), model.status());
        Check.due(told + ", its top", hill.top(), model.top());
        Check.due(told + ", its bottom", hill.bottom(), model.bottom());
    }

    private long callModel(Method method, long... args) {
        Object[] given = new Object[args.length];
        for (int i = 0; i < args.length; i++) {
            given[i] = method.getParameterTypes()[i] == long.class ? (Object) args[i] : (Object) (int) args[i];
        }
        try {
            return (Long) method.invoke(model, given);
        } catch (ReflectiveOperationException e) {
            throw new IllegalStateException(Face.told(method.getName(), args), e);
        }
    }

    private void askSets(int strips, int families) {
        int sets = 1 << strips;
        for (int f = 0; f < families; f++) {
            for (int set : new int[] {0, 1, sets / 2, sets - 2, sets - 1, sets, -1}) {
                same("round", f, set);
                same("net", f, set, 0);
                same("net", f, set, 63);
                same("net", f, set, 64);
                same("odds", f, set, 50);
                same("hungry", f, set);
                same("worth", f, set);
            }
        }
        for (int lot : new int[] {0, 1, 32, 62, 63, 64}) {
            same("weight", lot);
            same("left", 0, lot);
            same("left", strips - 1, lot);
            same("left", strips, lot);
        }
        for (int h = 0; h <= 6; h++) {
            same("harm", h, 3);
        }
    }

    private void askFamilies() {
        for (int f = 0; f <= 4; f++) {
            same("family", f, 3);
            for (int size = 1; size <= 7; size++) {
                same("best", f, size);
                same("edge", f, size);
                same("change", f, size, 5, 16);
            }
            same("climb", f);
            same("climbed");
            same("narrow", f, 16);
            same("beside", f, 0, -1, -1, 0, 0);
            same("beside", f, 999, 3 - f, 5, 2, 20);
            for (int other = 0; other <= 4; other++) {
                same("swaps", f, other);
                same("swap", f, other, 0, 0);
                same("ring", f, other, 3, 0);
            }
        }
        same("together");
        same("give", 0);
    }

    private void askYears() {
        same("tray", 3, 0, 60);
        for (int place = 0; place < 60; place++) {
            same("write", 3, place, 63 - place);
        }
        for (int f = 0; f <= 4; f++) {
            same("starved", f, 3, 60);
            same("luck", f, 3, 60, 9999, 100);
        }
    }

    /** From few STRIPS to more and back: nothing of the one VILLAGE is left in the other one. */
    private static void oneBehindTheOther() {
        Edge.says("A VILLAGE that is taken is there in place of that ahead (also of who holds what).");
        FullestEdges all = new FullestEdges();
        String[] strips = (TEN + MORE).split("(?<=;)");
        int[] counts = {1, 2, 3, 2, 4, 5, 4, 6, 10, 0, 7, 9, 8, 1};
        for (int count : counts) {
            StringBuilder text = new StringBuilder();
            for (int i = 0; i < count; i++) {
                text.append(strips[i]);
            }
            all.bring(text + FAMILIES + FOURTH);
            for (int f = 0; f < 4; f++) {
                all.same("round", f, 0);
                all.same("round", f, (1 << count) - 1);
                all.same("net", f, (1 << count) - 1, 0);
                all.same("worth", f, 0);
            }
        }
    }
}
