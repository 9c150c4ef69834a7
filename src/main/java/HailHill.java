/**
 * A hill of narrow fields and the families who hold them: harms that fall by odds, what a holding
 * gives, which holding is best, what is beside it, swaps, ways to give, and told years.
 *
 * The face only looks at arguments and keeps STATUS and the FRACTION; the classes inside do the work.
 * All rows are made once and used again, so that a long run of calls makes next to nothing new.
 */
public final class HailHill {
    public static final int NONE = -1;

    private static final int WRONG = 1;
    private static final int MISSING = 2;
    private static final int TOO_FEW = 3;
    private static final int TOO_MANY = 4;
    private static final int NO_SUCH = 6;
    private static final int ALREADY = 7;
    private static final int UNLIKE = 8;
    private static final int FAULTY = 9;

    private static final int MOST_STRIPS = 10;
    private static final int MOST_HARMS = 6;
    private static final int MOST_FAMILIES = 4;
    private static final int MOST_LOTS = 64;
    private static final int MOST_MARKS = 3;
    private static final int MOST_BYTES = 600;
    private static final int MOST_TRAYS = 4;
    private static final int MOST_NUMBERS = 60;
    private static final int MOST_SWAPS = 100;
    // Above all that is held against them; the language's list has no MAX_VALUE.
    private static final int HIGHEST = 2147483647;
    private static final long HIGHEST_LONG = 9223372036854775807L;

    private final Village land = new Village();
    private final Village[] marks = new Village[MOST_MARKS];
    private int markCount = 0;
    private final Trays trays = new Trays();
    private final Scribe scribe = new Scribe();
    private final Reckoner reckoner = new Reckoner(land);
    private final Chooser chooser = new Chooser(land, reckoner);
    private final Barn barns = new Barn(land, reckoner);
    private final Market market = new Market(land, reckoner);
    private final Giver giver = new Giver(land, reckoner);
    private final Dealer dealer = new Dealer(land, reckoner);

    private int state = 0;
    private long fractionTop = 0;
    private long fractionBottom = 1;
    private int toldFault = NONE;
    private int toldPlace = NONE;
    private int exchanged = NONE;

    public HailHill() {
        for (int i = 0; i < MOST_MARKS; i++) {
            marks[i] = new Village();
        }
    }

    public int status() {
        return state;
    }

    public long top() {
        return fractionTop;
    }

    public long bottom() {
        return fractionBottom;
    }

    // ---- TRAYS

    public boolean tray(int tray, int sort, int many) {
        if (!isTray(tray) || !isWithin(sort, 0, 3) || !isWithin(many, 0, MOST_NUMBERS)) {
            return refuse(WRONG);
        }
        trays.lay(tray, sort, many);
        return agree();
    }

    public boolean write(int tray, int place, long v) {
        int why = whyNoPlace(tray, place);
        if (why != 0) {
            return refuse(why);
        }
        trays.put(tray, place, v);
        return agree();
    }

    public long read(int tray, int place) {
        int why = whyNoPlace(tray, place);
        if (why != 0) {
            return none(why);
        }
        agree();
        return trays.rows[tray][place];
    }

    public boolean pour(int from, int place, int to, int at, int many) {
        if (!isTray(from) || !isTray(to) || place < 0 || at < 0 || many < 0) {
            return refuse(WRONG);
        }
        if (trays.isMissing(from) || trays.isMissing(to)) {
            return refuse(MISSING);
        }
        if (trays.sorts[from] != trays.sorts[to]) {
            return refuse(UNLIKE);
        }
        if (!trays.reaches(from, place, many) || !trays.reaches(to, at, many)) {
            return refuse(TOO_FEW);
        }
        trays.move(from, place, to, at, many);
        return agree();
    }

    // ---- the VILLAGE

    public int feed(int a, int b, int c, int d, int e) {
        if (scribe.filled + 20 > MOST_BYTES) {
            return NONE;
        }
        scribe.append(a);
        scribe.append(b);
        scribe.append(c);
        scribe.append(d);
        scribe.append(e);
        return scribe.filled;
    }

    public int village(int n) {
        if (n < 0 || n > scribe.filled) {
            return none(WRONG);
        }
        boolean taken = scribe.parse(n);
        scribe.filled = 0;
        toldFault = scribe.flaw;
        toldPlace = scribe.flawPlace;
        if (!taken) {
            return none(FAULTY);
        }
        land.takePlaces(scribe.draft);
        reckoner.forget();
        return answer(land.strips);
    }

    public int fault(int what) {
        if (what == 0) {
            return toldFault;
        }
        return what == 1 ? toldPlace : NONE;
    }

    public int many(int what) {
        switch (what) {
            case 0:
                return answer(land.strips);
            case 1:
                return answer(land.harms);
            case 2:
                return answer(land.families);
            default:
                return none(WRONG);
        }
    }

    public int strip(int strip, int what) {
        if (!land.hasStrip(strip)) {
            return none(WRONG);
        }
        switch (what) {
            case 0:
                return answer(land.x[strip]);
            case 1:
                return answer(land.y[strip]);
            case 2:
                return answer(land.gives[strip]);
            case 3:
                return answer(land.soil[strip]);
            case 4:
                return land.owner[strip] == NONE ? none(NO_SUCH) : answer(land.owner[strip]);
            default:
                return none(WRONG);
        }
    }

    public int harm(int harm, int what) {
        if (!land.hasHarm(harm)) {
            return none(WRONG);
        }
        switch (what) {
            case 0:
                return answer(land.kind[harm]);
            case 1:
                return answer(land.takes[harm]);
            case 2:
                return answer(land.chance[harm]);
            case 3:
                return answer(land.falls[harm]);
            default:
                return none(WRONG);
        }
    }

    public int family(int family, int what) {
        if (!land.hasFamily(family)) {
            return none(WRONG);
        }
        switch (what) {
            case 0:
                return answer(land.homeX[family]);
            case 1:
                return answer(land.homeY[family]);
            case 2:
                return answer(land.need[family]);
            case 3:
                return answer(land.heldBy(family));
            default:
                return none(WRONG);
        }
    }

    public boolean hold(int strip, int family) {
        if (!land.hasStrip(strip) || !land.hasFamilyOrNone(family)) {
            return refuse(WRONG);
        }
        if (land.owner[strip] == family) {
            return refuse(ALREADY);
        }
        land.owner[strip] = family;
        return agree();
    }

    public boolean let(int what, int v) {
        if (what == 0 && isWithin(v, 1, 99)) {
            land.pace = v;
            return agree();
        }
        if (what == 1 && isWithin(v, 0, 99)) {
            land.hunger = v;
            return agree();
        }
        return refuse(WRONG);
    }

    public boolean likely(int harm, int odds) {
        if (!land.hasHarm(harm) || !isWithin(odds, 0, 16)) {
            return refuse(WRONG);
        }
        land.chance[harm] = odds;
        return agree();
    }

    // ---- LOTS, NET, WORTH

    public long weight(int lot) {
        if (!land.hasLot(lot)) {
            return none(WRONG);
        }
        agree();
        return reckoner.weightOf(lot, NONE, 0);
    }

    public int left(int strip, int lot) {
        if (!land.hasStrip(strip) || !land.hasLot(lot)) {
            return none(WRONG);
        }
        return answer(land.gives[strip] * reckoner.eighthsKept(strip, lot) / 8);
    }

    public int round(int family, int set) {
        if (!land.hasHolding(family, set)) {
            return none(WRONG);
        }
        reckoner.ready();
        return answer(reckoner.roundOf(family, set));
    }

    public int net(int family, int set, int lot) {
        if (!land.hasHolding(family, set) || !land.hasLot(lot)) {
            return none(WRONG);
        }
        reckoner.ready();
        reckoner.fillNets(family, set, 0);
        return answer(reckoner.nets[lot]);
    }

    public boolean odds(int family, int set, int v) {
        if (!land.hasHolding(family, set) || !isWithin(v, 0, 9999)) {
            return refuse(WRONG);
        }
        reckoner.ready();
        reckoner.fillNets(family, set, 0);
        return tell(reckoner.weightAtMost(v), reckoner.wholeWeight());
    }

    public boolean hungry(int family, int set) {
        if (!land.hasHolding(family, set)) {
            return refuse(WRONG);
        }
        reckoner.ready();
        reckoner.fillNets(family, set, 0);
        return tell(reckoner.weightAtMost(land.need[family] - 1), reckoner.wholeWeight());
    }

    public boolean worth(int family, int set) {
        if (!land.hasHolding(family, set)) {
            return refuse(WRONG);
        }
        reckoner.ready();
        return tell(reckoner.worthOf(family, set), reckoner.wholeWeight());
    }

    // ---- BEST

    public int best(int family, int size) {
        int why = whyNoBest(family, size);
        if (why != 0) {
            return none(why);
        }
        reckoner.ready();
        chooser.listSets(family, size);
        int found = chooser.bestIndex(land.hunger);
        tell(chooser.worthAt(found, land.hunger), reckoner.wholeWeight());
        return chooser.sets[found];
    }

    public int climb(int family) {
        if (!land.hasFamily(family)) {
            return none(WRONG);
        }
        reckoner.ready();
        int reached = chooser.climbFrom(family);
        exchanged = chooser.steps;
        tell(reckoner.worthOf(family, reached), reckoner.wholeWeight());
        return reached;
    }

    public int climbed() {
        return exchanged == NONE ? none(NO_SUCH) : answer(exchanged);
    }

    public int edge(int family, int size) {
        int why = whyNoBest(family, size);
        if (why != 0) {
            return none(why);
        }
        reckoner.ready();
        chooser.listSets(family, size);
        int hunger = chooser.leastOtherHunger();
        return hunger == NONE ? none(NO_SUCH) : answer(hunger);
    }

    public int change(int family, int size, int harm, int odds) {
        if (!land.hasHarm(harm) || !isWithin(odds, 0, 16)) {
            return none(WRONG);
        }
        int why = whyNoBest(family, size);
        if (why != 0) {
            return none(why);
        }
        reckoner.ready();
        chooser.listSets(family, size);
        int now = chooser.bestIndex(land.hunger);
        reckoner.weigh(harm, odds);
        chooser.listSets(family, size);
        int then = chooser.bestIndex(land.hunger);
        return answer(now == then ? 0 : 1);
    }

    // ---- BESIDE

    public boolean beside(int family, int barn, int cousin, int harm, int premium, int cover) {
        if (!land.hasFamily(family) || !land.hasFamilyOrNone(cousin) || cousin == family) {
            return refuse(WRONG);
        }
        if (harm != NONE && !land.hasHarm(harm)) {
            return refuse(WRONG);
        }
        if (!isWithin(barn, 0, 999) || !isWithin(premium, 0, 99) || !isWithin(cover, 0, 99)) {
            return refuse(WRONG);
        }
        reckoner.ready();
        barns.fillOwn(family, harm, premium, cover);
        barns.fillGifts(cousin);
        long whole = reckoner.wholeWeight();
        return tell(barns.hungryWeight(family, barn), whole * whole);
    }

    // ---- SWAPS

    public int swaps(int one, int other) {
        if (!isCouple(one, other)) {
            return none(WRONG);
        }
        reckoner.ready();
        return answer(market.countSwaps(one, other, HIGHEST));
    }

    public int swap(int one, int other, int k, int what) {
        if (!isCouple(one, other) || k < 0 || !isWithin(what, 0, 1)) {
            return none(WRONG);
        }
        reckoner.ready();
        if (market.countSwaps(one, other, k) <= k) {
            return none(NO_SUCH);
        }
        return answer(market.gifts[what]);
    }

    public int ring(int one, int two, int three, int what) {
        if (!isCouple(one, two) || !isCouple(two, three) || one == three || !isWithin(what, 0, 2)) {
            return none(WRONG);
        }
        reckoner.ready();
        return market.findRing(one, two, three) ? answer(market.gifts[what]) : none(NO_SUCH);
    }

    public int settle() {
        reckoner.ready();
        int done = 0;
        while (done < MOST_SWAPS && market.swapFirst()) {
            done++;
        }
        return answer(done);
    }

    // ---- GIVEN, NARROW, TOGETHER, YEARS

    public boolean give(int kind) {
        if (!isWithin(kind, 0, 1)) {
            return refuse(WRONG);
        }
        if (!giver.isSmallEnough()) {
            return refuse(TOO_MANY);
        }
        if (land.families == 0) {
            return refuse(NO_SUCH);
        }
        reckoner.ready();
        long least = giver.findLeast(kind);
        return tell(least, kind == 0 ? reckoner.wholeWeight() : 1);
    }

    public int given(int strip) {
        if (giver.stripsThen == NONE) {
            return none(NO_SUCH);
        }
        if (strip < 0 || strip >= giver.stripsThen) {
            return none(WRONG);
        }
        return answer(giver.found[strip]);
    }

    public int narrow(int family, int of) {
        if (!land.hasFamily(family) || !isWithin(of, 1, 16)) {
            return none(WRONG);
        }
        reckoner.ready();
        int times = reckoner.halvingsUntilHungry(family, of);
        return times == NONE ? none(NO_SUCH) : answer(times);
    }

    public int together() {
        reckoner.ready();
        return answer(dealer.losersByPlace());
    }

    public int starved(int family, int tray, int many) {
        int why = whyNoYears(family, tray, many);
        if (why != 0) {
            return none(why);
        }
        reckoner.ready();
        return answer(reckoner.hungryYears(family, land.heldBy(family), trays.rows[tray], many));
    }

    public int luck(int family, int tray, int many, int seed, int deals) {
        if (!isWithin(seed, 0, 9999) || !isWithin(deals, 1, 100)) {
            return none(WRONG);
        }
        int why = whyNoYears(family, tray, many);
        if (why != 0) {
            return none(why);
        }
        reckoner.ready();
        dealer.startDraws(seed);
        return answer(dealer.luckierDeals(family, trays.rows[tray], many, deals));
    }

    // ---- MARKS

    public int mark() {
        if (markCount >= MOST_MARKS) {
            return none(TOO_MANY);
        }
        marks[markCount].takeAll(land);
        markCount++;
        return answer(markCount);
    }

    public int back() {
        if (markCount <= 0) {
            return none(NO_SUCH);
        }
        markCount--;
        land.takeAll(marks[markCount]);
        reckoner.forget();
        return answer(markCount);
    }

    // ---- what the calls above share

    private int answer(int v) {
        state = 0;
        return v;
    }

    private boolean agree() {
        state = 0;
        return true;
    }

    private int none(int why) {
        state = why;
        return NONE;
    }

    private boolean refuse(int why) {
        state = why;
        return false;
    }

    private boolean tell(long upper, long lower) {
        long common = commonDivisor(Math.abs(upper), lower);
        if (common < 1) {
            common = 1;
        }
        fractionTop = upper / common;
        fractionBottom = lower / common;
        return agree();
    }

    private static long commonDivisor(long a, long b) {
        // Euclid needs fewer than 100 steps for any two longs.
        for (int step = 0; step < 200 && b != 0; step++) {
            long rest = a % b;
            a = b;
            b = rest;
        }
        return a;
    }

    private static boolean isWithin(int v, int low, int high) {
        return v >= low && v <= high;
    }

    private static boolean isTray(int tray) {
        return isWithin(tray, 0, MOST_TRAYS - 1);
    }

    private boolean isCouple(int one, int other) {
        return land.hasFamily(one) && land.hasFamily(other) && one != other;
    }

    private int whyNoPlace(int tray, int place) {
        if (!isTray(tray)) {
            return WRONG;
        }
        if (trays.isMissing(tray)) {
            return MISSING;
        }
        return place < 0 || place >= trays.sizes[tray] ? TOO_FEW : 0;
    }

    private int whyNoBest(int family, int size) {
        if (!land.hasFamily(family) || !isWithin(size, 1, 6)) {
            return WRONG;
        }
        return Integer.bitCount(land.openTo(family)) < size ? NO_SUCH : 0;
    }

    private int whyNoYears(int family, int tray, int many) {
        if (!land.hasFamily(family) || !isTray(tray) || !isWithin(many, 1, MOST_NUMBERS)) {
            return WRONG;
        }
        if (trays.isMissing(tray)) {
            return MISSING;
        }
        if (!trays.reaches(tray, 0, many)) {
            return TOO_FEW;
        }
        for (int i = 0; i < many; i++) {
            long lot = trays.rows[tray][i];
            if (lot < 0 || lot >= land.lots()) {
                return WRONG;
            }
        }
        return 0;
    }

    /** The four rows of numbers; a size of NONE is a MISSING one. */
    private static final class Trays {
        final long[][] rows = new long[MOST_TRAYS][MOST_NUMBERS];
        final int[] sorts = new int[MOST_TRAYS];
        final int[] sizes = {NONE, NONE, NONE, NONE};

        boolean isMissing(int tray) {
            return sizes[tray] == NONE;
        }

        // As a long: place and many may each be as large as an int can be.
        boolean reaches(int tray, int place, int many) {
            return (long) place + many <= sizes[tray];
        }

        void lay(int tray, int sort, int size) {
            sorts[tray] = sort;
            sizes[tray] = size;
            for (int i = 0; i < MOST_NUMBERS; i++) {
                rows[tray][i] = 0;
            }
        }

        void put(int tray, int place, long v) {
            rows[tray][place] = cut(v, sorts[tray]);
        }

        void move(int from, int place, int to, int at, int size) {
            System.arraycopy(rows[from], place, rows[to], at, size);
        }

        static long cut(long v, int sort) {
            switch (sort) {
                case 0:
                    return (byte) v;
                case 1:
                    return (short) v;
                case 2:
                    return (int) v;
                default:
                    return v;
            }
        }
    }

    /** STRIPS, HARMS, FAMILIES, who holds what, PACE and HUNGER: all that a MARK keeps. */
    private static final class Village {
        static final int HAIL = 0;
        static final int FROST = 1;
        static final int DRY = 2;
        static final int BLIGHT = 3;

        int strips = 0;
        int harms = 0;
        int families = 0;
        int pace = 10;
        int hunger = 1;
        final int[] x = new int[MOST_STRIPS];
        final int[] y = new int[MOST_STRIPS];
        final int[] gives = new int[MOST_STRIPS];
        final int[] soil = new int[MOST_STRIPS];
        final int[] owner = new int[MOST_STRIPS];
        final int[] kind = new int[MOST_HARMS];
        final int[] takes = new int[MOST_HARMS];
        final int[] chance = new int[MOST_HARMS];
        final int[] falls = new int[MOST_HARMS];
        final int[] homeX = new int[MOST_FAMILIES];
        final int[] homeY = new int[MOST_FAMILIES];
        final int[] need = new int[MOST_FAMILIES];

        void empty() {
            strips = 0;
            harms = 0;
            families = 0;
        }

        void takeAll(Village other) {
            takePlaces(other);
            pace = other.pace;
            hunger = other.hunger;
        }

        // All but PACE and HUNGER, which stay when another VILLAGE comes.
        void takePlaces(Village other) {
            strips = other.strips;
            harms = other.harms;
            families = other.families;
            copyRow(other.x, x);
            copyRow(other.y, y);
            copyRow(other.gives, gives);
            copyRow(other.soil, soil);
            copyRow(other.owner, owner);
            copyRow(other.kind, kind);
            copyRow(other.takes, takes);
            copyRow(other.chance, chance);
            copyRow(other.falls, falls);
            copyRow(other.homeX, homeX);
            copyRow(other.homeY, homeY);
            copyRow(other.need, need);
        }

        static void copyRow(int[] from, int[] to) {
            System.arraycopy(from, 0, to, 0, Math.min(from.length, to.length));
        }

        boolean hasStrip(int strip) {
            return strip >= 0 && strip < strips;
        }

        boolean hasHarm(int harm) {
            return harm >= 0 && harm < harms;
        }

        boolean hasFamily(int family) {
            return family >= 0 && family < families;
        }

        boolean hasFamilyOrNone(int family) {
            return family == NONE || hasFamily(family);
        }

        boolean hasLot(int lot) {
            return lot >= 0 && lot < lots();
        }

        boolean hasHolding(int family, int set) {
            return hasFamily(family) && set >= 0 && set < sets();
        }

        int lots() {
            return 1 << harms;
        }

        int sets() {
            return 1 << strips;
        }

        int heldBy(int family) {
            int set = 0;
            for (int s = 0; s < strips; s++) {
                if (owner[s] == family) {
                    set |= 1 << s;
                }
            }
            return set;
        }

        int openTo(int family) {
            return heldBy(NONE) | heldBy(family);
        }

        int stripsFallenOn(int harm, int low, int high) {
            int set = 0;
            for (int s = 0; s < strips; s++) {
                if (fallsOn(kind[harm], low, high, s)) {
                    set |= 1 << s;
                }
            }
            return set;
        }

        boolean fallsOn(int sort, int low, int high, int strip) {
            switch (sort) {
                case HAIL:
                    return x[strip] >= low && x[strip] <= high;
                case FROST:
                    return y[strip] < low;
                case DRY:
                    return soil[strip] == low;
                default:
                    return true;
            }
        }
    }

    /** The tape, and the reading of its text into a VILLAGE up to the first FAULT. */
    private static final class Scribe {
        // A WORD of up to 8 letters is told by a long: a byte each, the first one highest.
        static final long WORD_STRIP = 0x7374726970L;
        static final long WORD_AT = 0x6174L;
        static final long WORD_GIVES = 0x6769766573L;
        static final long WORD_SOIL = 0x736f696cL;
        static final long WORD_HAIL = 0x6861696cL;
        static final long WORD_TO = 0x746fL;
        static final long WORD_FROST = 0x66726f7374L;
        static final long WORD_DRY = 0x647279L;
        static final long WORD_BLIGHT = 0x626c69676874L;
        static final long WORD_FAMILY = 0x66616d696c79L;
        static final long WORD_NEED = 0x6e656564L;
        static final long WORD_HOLDS = 0x686f6c6473L;
        static final long WORD_TAKES = 0x74616b6573L;
        static final long WORD_ODDS = 0x6f646473L;
        static final long WORD_TOO_LONG = 0L;
        // The words that no NAME may be.
        static final long[] NO_NAMES = {
            WORD_STRIP, WORD_AT, WORD_GIVES, WORD_SOIL, WORD_HAIL, WORD_TO, WORD_FROST, WORD_DRY,
            WORD_BLIGHT, WORD_FAMILY, WORD_NEED, WORD_HOLDS, WORD_TAKES, WORD_ODDS, WORD_TOO_LONG};

        static final int END = 0;
        static final int WORD = 1;
        static final int NUMBER = 2;
        static final int SIGN = 3;
        static final int BAD = 4;

        static final int NO_TOKEN = 1;
        static final int CANNOT_STAND = 2;
        static final int BAD_NAME = 3;
        static final int BAD_NUMBER = 4;
        static final int ONE_TOO_MANY = 5;
        static final int HELD_ALREADY = 6;

        final byte[] text = new byte[MOST_BYTES];
        int filled = 0;
        final Village draft = new Village();
        int flaw = 0;
        int flawPlace = NONE;
        private int length = 0;
        private int next = 0;
        private int token = END;
        private int start = 0;
        private int value = 0;
        private long word = 0;
        private final long[] stripNames = new long[MOST_STRIPS];
        private final long[] familyNames = new long[MOST_FAMILIES];
        private final int[] low = new int[MOST_HARMS];
        private final int[] high = new int[MOST_HARMS];

        void append(int four) {
            for (int shift = 24; shift >= 0; shift -= 8) {
                if (filled < MOST_BYTES) {
                    text[filled] = (byte) (four >> shift);
                    filled++;
                }
            }
        }

        boolean parse(int n) {
            length = Math.min(n, filled);
            next = 0;
            flaw = 0;
            flawPlace = NONE;
            draft.empty();
            step();
            for (int part = 0; part <= MOST_BYTES && flaw == 0 && token != END; part++) {
                if (sees(WORD_STRIP)) {
                    readStrip();
                } else if (sees(WORD_FAMILY)) {
                    readFamily();
                } else {
                    readHarm();
                }
            }
            // Only now: a HARM falls on STRIPS told behind it, too.
            for (int h = 0; h < draft.harms; h++) {
                draft.falls[h] = draft.stripsFallenOn(h, low[h], high[h]);
            }
            return flaw == 0;
        }

        private void readStrip() {
            int s = draft.strips;
            if (s >= MOST_STRIPS) {
                stop(ONE_TOO_MANY);
                return;
            }
            step();
            stripNames[s] = readNewName(stripNames, s);
            expectWord(WORD_AT);
            draft.x[s] = readNumber(0, 99);
            draft.y[s] = readNumber(0, 99);
            expectWord(WORD_GIVES);
            draft.gives[s] = readNumber(1, 99);
            draft.soil[s] = 1;
            if (sees(WORD_SOIL)) {
                step();
                draft.soil[s] = readNumber(1, 3);
            }
            expectSign();
            draft.owner[s] = NONE;
            draft.strips = s + 1;
        }

        private void readHarm() {
            int h = draft.harms;
            int kind = kindOfHarm();
            if (kind == NONE || h >= MOST_HARMS) {
                stop(kind == NONE ? CANNOT_STAND : ONE_TOO_MANY);
                return;
            }
            step();
            if (kind == Village.HAIL) {
                low[h] = readNumber(0, 99);
                expectWord(WORD_TO);
                high[h] = readNumber(low[h], 99);
            } else if (kind == Village.FROST) {
                low[h] = readNumber(0, 99);
            } else if (kind == Village.DRY) {
                low[h] = readNumber(1, 3);
            }
            expectWord(WORD_TAKES);
            draft.takes[h] = readNumber(0, 8);
            expectWord(WORD_ODDS);
            draft.chance[h] = readNumber(0, 16);
            expectSign();
            draft.kind[h] = kind;
            draft.harms = h + 1;
        }

        private int kindOfHarm() {
            if (sees(WORD_HAIL)) {
                return Village.HAIL;
            }
            if (sees(WORD_FROST)) {
                return Village.FROST;
            }
            if (sees(WORD_DRY)) {
                return Village.DRY;
            }
            return sees(WORD_BLIGHT) ? Village.BLIGHT : NONE;
        }

        private void readFamily() {
            int f = draft.families;
            if (f >= MOST_FAMILIES) {
                stop(ONE_TOO_MANY);
                return;
            }
            step();
            familyNames[f] = readNewName(familyNames, f);
            expectWord(WORD_AT);
            draft.homeX[f] = readNumber(0, 99);
            draft.homeY[f] = readNumber(0, 99);
            expectWord(WORD_NEED);
            draft.need[f] = readNumber(0, 99);
            for (int more = 0; more <= MOST_BYTES && sees(WORD_HOLDS); more++) {
                step();
                readHeld(f);
            }
            expectSign();
            draft.families = f + 1;
        }

        private void readHeld(int family) {
            if (!seesName()) {
                stop(CANNOT_STAND);
                return;
            }
            int s = indexOfWord(stripNames, draft.strips);
            if (s == NONE) {
                stop(BAD_NAME);
            } else if (draft.owner[s] != NONE) {
                stop(HELD_ALREADY);
            } else {
                draft.owner[s] = family;
                step();
            }
        }

        private long readNewName(long[] names, int count) {
            if (!seesName()) {
                stop(CANNOT_STAND);
            } else if (indexOfWord(names, count) != NONE) {
                stop(BAD_NAME);
            }
            long told = word;
            step();
            return told;
        }

        private int readNumber(int least, int most) {
            if (token != NUMBER) {
                stop(CANNOT_STAND);
            } else if (value < least || value > most) {
                stop(BAD_NUMBER);
            }
            int told = value;
            step();
            return told;
        }

        private void expectWord(long wanted) {
            if (!sees(wanted)) {
                stop(CANNOT_STAND);
            }
            step();
        }

        private void expectSign() {
            if (token != SIGN) {
                stop(CANNOT_STAND);
            }
            step();
        }

        private boolean sees(long wanted) {
            return flaw == 0 && token == WORD && word == wanted;
        }

        private boolean seesName() {
            return token == WORD && indexOfWord(NO_NAMES, NO_NAMES.length) == NONE;
        }

        private int indexOfWord(long[] words, int count) {
            for (int i = 0; i < count && i < words.length; i++) {
                if (words[i] == word) {
                    return i;
                }
            }
            return NONE;
        }

        // The first FAULT stays: from there on the reading stands still at its TOKEN.
        private void stop(int why) {
            if (flaw == 0) {
                flaw = token == BAD ? NO_TOKEN : why;
                flawPlace = start;
            }
        }

        private void step() {
            if (flaw != 0) {
                return;
            }
            while (next < length && (text[next] == 10 || text[next] == 32)) {
                next++;
            }
            start = next;
            if (next >= length) {
                token = END;
            } else if (isLetter(text[next])) {
                scanWord();
            } else if (isDigit(text[next])) {
                scanNumber();
            } else if (text[next] == ';') {
                token = SIGN;
                next++;
            } else {
                token = BAD;
            }
        }

        private void scanWord() {
            token = WORD;
            word = 0;
            while (next < length && isLetter(text[next])) {
                word = word << 8 | text[next];
                next++;
            }
            if (next - start > 8) {
                word = WORD_TOO_LONG;
            }
        }

        private void scanNumber() {
            value = 0;
            while (next < length && isDigit(text[next])) {
                value = value * 10 + (text[next] - '0');
                next++;
            }
            token = next - start <= 2 ? NUMBER : BAD;
        }

        private static boolean isLetter(byte c) {
            return c >= 'a' && c <= 'z';
        }

        private static boolean isDigit(byte c) {
            return c >= '0' && c <= '9';
        }
    }

    /** WEIGHTS, LEFT, ROUND, NET, WORTH; ready() comes ahead of all that goes over LOTS. */
    private static final class Reckoner {
        private final Village land;
        final long[] weights = new long[MOST_LOTS];
        final int[] nets = new int[MOST_LOTS];
        long netSum = 0;
        long shortSum = 0;
        private boolean placesKnown = false;
        private final int[] kept = new int[MOST_STRIPS * MOST_LOTS];
        private final int[] apart = new int[MOST_STRIPS * MOST_STRIPS];
        // These two grow with the VILLAGE, so that small ones stay small.
        private int[] rounds = new int[0];
        private int[] ways = new int[0];

        Reckoner(Village land) {
            this.land = land;
        }

        void forget() {
            placesKnown = false;
        }

        void ready() {
            weigh(NONE, 0);
            if (placesKnown) {
                return;
            }
            placesKnown = true;
            fillKept();
            fillApart();
            makeRoom();
            for (int f = 0; f < land.families; f++) {
                fillRounds(f);
            }
        }

        void weigh(int harm, int odds) {
            int lots = land.lots();
            for (int lot = 0; lot < lots; lot++) {
                weights[lot] = weightOf(lot, harm, odds);
            }
        }

        // With the odds told for one HARM (NONE: for none) in place of its own.
        long weightOf(int lot, int harm, int odds) {
            long product = 1;
            for (int h = 0; h < land.harms; h++) {
                int chance = h == harm ? odds : land.chance[h];
                product *= (lot >> h & 1) != 0 ? chance : 16 - chance;
            }
            return product;
        }

        long wholeWeight() {
            return 1L << 4 * land.harms;
        }

        int eighthsKept(int strip, int lot) {
            int taken = 0;
            for (int h = 0; h < land.harms; h++) {
                if ((lot >> h & 1) != 0 && (land.falls[h] >> strip & 1) != 0) {
                    taken += land.takes[h];
                }
            }
            return Math.max(0, 8 - taken);
        }

        private void fillKept() {
            for (int s = 0; s < land.strips; s++) {
                for (int lot = 0; lot < land.lots(); lot++) {
                    kept[s * MOST_LOTS + lot] = eighthsKept(s, lot);
                }
            }
        }

        private void fillApart() {
            for (int s = 0; s < land.strips; s++) {
                for (int t = 0; t < land.strips; t++) {
                    apart[s * MOST_STRIPS + t] =
                        Math.abs(land.x[s] - land.x[t]) + Math.abs(land.y[s] - land.y[t]);
                }
            }
        }

        private void makeRoom() {
            int sets = land.sets();
            if (rounds.length < MOST_FAMILIES * sets) {
                rounds = new int[MOST_FAMILIES * sets];
                ways = new int[MOST_STRIPS * sets];
            }
        }

        // The shortest way from home through a set to its last STRIP grows out of smaller sets.
        private void fillRounds(int family) {
            int sets = land.sets();
            int row = family << land.strips;
            rounds[row] = 0;
            for (int set = 1; set < sets; set++) {
                int shortest = HIGHEST;
                for (int last = 0; last < land.strips; last++) {
                    if ((set >> last & 1) != 0) {
                        int home = stepsFromHome(family, last);
                        int rest = set ^ 1 << last;
                        int way = rest == 0 ? home : shortestWay(rest, last);
                        ways[set * MOST_STRIPS + last] = way;
                        shortest = Math.min(shortest, way + home);
                    }
                }
                rounds[row + set] = shortest;
            }
        }

        private int shortestWay(int rest, int last) {
            int shortest = HIGHEST;
            for (int s = 0; s < land.strips; s++) {
                if ((rest >> s & 1) != 0) {
                    int way = ways[rest * MOST_STRIPS + s] + apart[s * MOST_STRIPS + last];
                    shortest = way < shortest ? way : shortest;
                }
            }
            return shortest;
        }

        private int stepsFromHome(int family, int strip) {
            return Math.abs(land.homeX[family] - land.x[strip])
                + Math.abs(land.homeY[family] - land.y[strip]);
        }

        int roundOf(int family, int set) {
            int at = (family << land.strips) + set;
            return at >= 0 && at < rounds.length ? rounds[at] : 0;
        }

        // NET of a set for each LOT, with GIVES of each STRIP halved so many times.
        void fillNets(int family, int set, int halvings) {
            int lots = land.lots();
            int cost = land.pace < 1 ? 0 : roundOf(family, set) / land.pace;
            for (int lot = 0; lot < lots; lot++) {
                nets[lot] = -cost;
            }
            for (int s = 0; s < land.strips; s++) {
                if ((set >> s & 1) != 0) {
                    int gives = land.gives[s] >> halvings;
                    int row = s * MOST_LOTS;
                    for (int lot = 0; lot < lots; lot++) {
                        nets[lot] += gives * kept[row + lot] / 8;
                    }
                }
            }
            for (int lot = 0; lot < lots; lot++) {
                if (nets[lot] < 0) {
                    nets[lot] = 0;
                }
            }
        }

        // Of the NETS filled latest.
        long weightAtMost(int v) {
            long sum = 0;
            for (int lot = 0; lot < land.lots(); lot++) {
                if (nets[lot] <= v) {
                    sum += weights[lot];
                }
            }
            return sum;
        }

        // Apart from one another, so that WORTH can be told for any HUNGER.
        void sumUp(int family, int set) {
            fillNets(family, set, 0);
            int need = land.need[family];
            int lots = land.lots();
            netSum = 0;
            shortSum = 0;
            for (int lot = 0; lot < lots; lot++) {
                int net = nets[lot];
                netSum += weights[lot] * net;
                if (net < need) {
                    shortSum += weights[lot] * (need - net);
                }
            }
        }

        // Times wholeWeight(): so all WORTHS of one VILLAGE can be held against one another.
        long worthOf(int family, int set) {
            sumUp(family, set);
            return netSum - land.hunger * shortSum;
        }

        int halvingsUntilHungry(int family, int sixteenths) {
            int held = land.heldBy(family);
            for (int times = 0; times <= 6; times++) {
                fillNets(family, held, times);
                if (weightAtMost(land.need[family] - 1) * 16 >= sixteenths * wholeWeight()) {
                    return times;
                }
            }
            return NONE;
        }

        int hungryYears(int family, int set, long[] years, int count) {
            fillNets(family, set, 0);
            int hungry = 0;
            for (int i = 0; i < count; i++) {
                int lot = (int) years[i];
                if (land.hasLot(lot) && nets[lot] < land.need[family]) {
                    hungry++;
                }
            }
            return hungry;
        }
    }

    /** BEST, CLIMB, EDGE: sets held against one another by WORTH. */
    private static final class Chooser {
        // No size has more sets out of 10 STRIPS than 5: 252.
        static final int MOST_SETS = 252;

        private final Village land;
        private final Reckoner reckoner;
        final int[] sets = new int[MOST_SETS];
        private final long[] netSums = new long[MOST_SETS];
        private final long[] shortSums = new long[MOST_SETS];
        private int count = 0;
        int steps = 0;
        private long reachedWorth = 0;

        Chooser(Village land, Reckoner reckoner) {
            this.land = land;
            this.reckoner = reckoner;
        }

        void listSets(int family, int size) {
            int open = land.openTo(family);
            count = 0;
            for (int set = 0; set <= open; set++) {
                if ((set & ~open) == 0 && Integer.bitCount(set) == size && count < MOST_SETS) {
                    reckoner.sumUp(family, set);
                    sets[count] = set;
                    netSums[count] = reckoner.netSum;
                    shortSums[count] = reckoner.shortSum;
                    count++;
                }
            }
        }

        long worthAt(int index, int hunger) {
            return netSums[index] - hunger * shortSums[index];
        }

        // Sets are listed from the least on, so the first of several stays.
        int bestIndex(int hunger) {
            int found = 0;
            for (int i = 1; i < count; i++) {
                if (worthAt(i, hunger) > worthAt(found, hunger)) {
                    found = i;
                }
            }
            return found;
        }

        int leastOtherHunger() {
            int carefree = bestIndex(0);
            for (int hunger = 1; hunger <= 99; hunger++) {
                if (bestIndex(hunger) != carefree) {
                    return hunger;
                }
            }
            return NONE;
        }

        // WORTH grows with each step, so no set comes twice: fewer steps than sets.
        int climbFrom(int family) {
            int open = land.openTo(family);
            int set = land.heldBy(family);
            reachedWorth = reckoner.worthOf(family, set);
            steps = 0;
            for (int i = 0; i < land.sets(); i++) {
                int better = bestExchange(family, set, open);
                if (better == NONE) {
                    break;
                }
                set = better;
                steps++;
            }
            return set;
        }

        // A STRIP that was given on the way up is nobody's then, and may be taken again.
        private int bestExchange(int family, int set, int open) {
            int found = NONE;
            for (int mine = 0; mine < land.strips; mine++) {
                for (int free = 0; free < land.strips; free++) {
                    if ((set >> mine & 1) != 0 && ((open & ~set) >> free & 1) != 0) {
                        int other = set ^ (1 << mine) ^ (1 << free);
                        long worth = reckoner.worthOf(family, other);
                        boolean lesser = worth == reachedWorth && found != NONE && other < found;
                        if (worth > reachedWorth || lesser) {
                            reachedWorth = worth;
                            found = other;
                        }
                    }
                }
            }
            return found;
        }
    }

    /** BESIDE: two years with a barn, a cousin, a coin. */
    private static final class Barn {
        private final Village land;
        private final Reckoner reckoner;
        private final int[] own = new int[MOST_LOTS];
        private final int[] gifts = new int[MOST_LOTS];

        Barn(Village land, Reckoner reckoner) {
            this.land = land;
            this.reckoner = reckoner;
        }

        void fillOwn(int family, int harm, int premium, int cover) {
            reckoner.fillNets(family, land.heldBy(family), 0);
            for (int lot = 0; lot < land.lots(); lot++) {
                own[lot] = reckoner.nets[lot];
                if (harm != NONE) {
                    own[lot] = Math.max(0, own[lot] - premium);
                    own[lot] += (lot >> harm & 1) != 0 ? cover : 0;
                }
            }
        }

        void fillGifts(int cousin) {
            if (cousin != NONE) {
                reckoner.fillNets(cousin, land.heldBy(cousin), 0);
            }
            for (int lot = 0; lot < land.lots(); lot++) {
                gifts[lot] = cousin == NONE ? 0 : Math.max(0, reckoner.nets[lot] - land.need[cousin]);
            }
        }

        // A gift is at most what is SHORT; so it ends hunger just if all of it would.
        long hungryWeight(int family, int barn) {
            int need = land.need[family];
            int lots = land.lots();
            long sum = 0;
            for (int first = 0; first < lots; first++) {
                int laidIn = Math.min(barn, Math.max(0, own[first] - need));
                int stays = laidIn - (laidIn + 1) / 2;
                long hungry = 0;
                for (int second = 0; second < lots; second++) {
                    if (own[second] + stays + gifts[second] < need) {
                        hungry += reckoner.weights[second];
                    }
                }
                sum += reckoner.weights[first] * hungry;
            }
            return sum;
        }
    }

    /** SWAPS of two, RINGS of three, SETTLED. */
    private static final class Market {
        private final Village land;
        private final Reckoner reckoner;
        // The STRIPS that were given in the SWAP or RING found latest.
        final int[] gifts = new int[3];
        private final int[] held = new int[MOST_FAMILIES];
        private final long[] worths = new long[MOST_FAMILIES];

        Market(Village land, Reckoner reckoner) {
            this.land = land;
            this.reckoner = reckoner;
        }

        private void look(int family) {
            held[family] = land.heldBy(family);
            worths[family] = reckoner.worthOf(family, held[family]);
        }

        private boolean holds(int family, int strip) {
            return (held[family] >> strip & 1) != 0;
        }

        private boolean gains(int family, int loses, int gets) {
            int set = held[family] ^ (1 << loses) ^ (1 << gets);
            return reckoner.worthOf(family, set) > worths[family];
        }

        // How many SWAPS there are, up to and with the one of number last, which gifts tells then.
        int countSwaps(int one, int other, int last) {
            look(one);
            look(other);
            int count = 0;
            for (int a = 0; a < land.strips; a++) {
                for (int b = 0; b < land.strips; b++) {
                    if (holds(one, a) && holds(other, b) && gains(one, a, b) && gains(other, b, a)) {
                        gifts[0] = a;
                        gifts[1] = b;
                        count++;
                        if (count > last) {
                            return count;
                        }
                    }
                }
            }
            return count;
        }

        boolean findRing(int one, int two, int three) {
            look(one);
            look(two);
            look(three);
            for (int a = 0; a < land.strips; a++) {
                for (int b = 0; b < land.strips; b++) {
                    if (holds(one, a) && holds(two, b) && gains(two, b, a)) {
                        int c = thirdOfRing(one, three, a, b);
                        if (c != NONE) {
                            gifts[0] = a;
                            gifts[1] = b;
                            gifts[2] = c;
                            return true;
                        }
                    }
                }
            }
            return false;
        }

        private int thirdOfRing(int one, int three, int a, int b) {
            for (int c = 0; c < land.strips; c++) {
                if (holds(three, c) && gains(three, c, b) && gains(one, a, c)) {
                    return c;
                }
            }
            return NONE;
        }

        boolean swapFirst() {
            for (int one = 0; one < land.families; one++) {
                for (int other = one + 1; other < land.families; other++) {
                    if (countSwaps(one, other, 0) > 0) {
                        land.owner[gifts[0]] = other;
                        land.owner[gifts[1]] = one;
                        return true;
                    }
                }
            }
            return false;
        }
    }

    /** GIVEN: all ways to give each STRIP to a FAMILY, held against one another. */
    private static final class Giver {
        static final int FEW_STRIPS = 8;
        static final int FEW_FAMILIES = 3;
        static final int FEW_SETS = 256;
        static final int MOST_WAYS = 6561;

        private final Village land;
        private final Reckoner reckoner;
        // Of a FAMILY's set: the LOTS of WEIGHT above 0 in which it is HUNGRY, and their WEIGHTS.
        private final long[] hungryLots = new long[FEW_FAMILIES * FEW_SETS];
        private final long[] hungryWeights = new long[FEW_FAMILIES * FEW_SETS];
        private final int[] way = new int[FEW_STRIPS];
        private final int[] shares = new int[FEW_FAMILIES];
        final int[] found = new int[FEW_STRIPS];
        int stripsThen = NONE;

        Giver(Village land, Reckoner reckoner) {
            this.land = land;
            this.reckoner = reckoner;
        }

        boolean isSmallEnough() {
            return land.strips <= FEW_STRIPS && land.families <= FEW_FAMILIES;
        }

        long findLeast(int kind) {
            for (int f = 0; f < land.families; f++) {
                for (int set = 0; set < land.sets(); set++) {
                    fillHungry(f, set);
                }
            }
            startWays();
            stripsThen = land.strips;
            long least = HIGHEST_LONG;
            boolean more = true;
            for (int i = 0; i < MOST_WAYS && more; i++) {
                long v = kind == 0 ? weightOfWay() : worstOfWay();
                if (v < least) {
                    least = v;
                    System.arraycopy(way, 0, found, 0, FEW_STRIPS);
                }
                more = turnToNextWay();
            }
            return least;
        }

        private void fillHungry(int family, int set) {
            reckoner.fillNets(family, set, 0);
            long lots = 0;
            for (int lot = 0; lot < land.lots(); lot++) {
                if (reckoner.nets[lot] < land.need[family] && reckoner.weights[lot] > 0) {
                    lots |= 1L << lot;
                }
            }
            hungryLots[family * FEW_SETS + set] = lots;
            hungryWeights[family * FEW_SETS + set] = reckoner.weightAtMost(land.need[family] - 1);
        }

        private void startWays() {
            for (int s = 0; s < FEW_STRIPS; s++) {
                way[s] = 0;
            }
            for (int f = 0; f < FEW_FAMILIES; f++) {
                shares[f] = 0;
            }
            shares[0] = land.sets() - 1;
        }

        // The last STRIP turns fastest, so ways come by STRIP 0's FAMILY first.
        private boolean turnToNextWay() {
            for (int s = land.strips - 1; s >= 0; s--) {
                int f = way[s];
                int next = f + 1 < land.families ? f + 1 : 0;
                way[s] = next;
                shares[f] &= ~(1 << s);
                shares[next] |= 1 << s;
                if (next != 0) {
                    return true;
                }
            }
            return false;
        }

        private long weightOfWay() {
            long sum = 0;
            for (int f = 0; f < land.families; f++) {
                sum += hungryWeights[f * FEW_SETS + shares[f]];
            }
            return sum;
        }

        private int worstOfWay() {
            long one = 0;
            long two = 0;
            long three = 0;
            for (int f = 0; f < land.families; f++) {
                long lots = hungryLots[f * FEW_SETS + shares[f]];
                three |= two & lots;
                two |= one & lots;
                one |= lots;
            }
            if (three != 0) {
                return 3;
            }
            if (two != 0) {
                return 2;
            }
            return one != 0 ? 1 : 0;
        }
    }

    /** TOGETHER and LUCK: all STRIPS that are somebody's, put in a row and dealt anew. */
    private static final class Dealer {
        private final Village land;
        private final Reckoner reckoner;
        private final int[] row = new int[MOST_STRIPS];
        private int count = 0;
        private int draws = 0;

        Dealer(Village land, Reckoner reckoner) {
            this.land = land;
            this.reckoner = reckoner;
        }

        int losersByPlace() {
            fillRow();
            sortRow();
            int losers = 0;
            for (int f = 0; f < land.families; f++) {
                long now = reckoner.worthOf(f, land.heldBy(f));
                if (reckoner.worthOf(f, dealtTo(f)) < now) {
                    losers |= 1 << f;
                }
            }
            return losers;
        }

        void startDraws(int seed) {
            draws = seed;
        }

        int luckierDeals(int family, long[] years, int many, int deals) {
            int asHeld = reckoner.hungryYears(family, land.heldBy(family), years, many);
            int luckier = 0;
            for (int deal = 0; deal < deals; deal++) {
                fillRow();
                shuffleRow();
                if (reckoner.hungryYears(family, dealtTo(family), years, many) < asHeld) {
                    luckier++;
                }
            }
            return luckier;
        }

        private void fillRow() {
            count = 0;
            for (int s = 0; s < land.strips; s++) {
                if (land.owner[s] != NONE) {
                    row[count] = s;
                    count++;
                }
            }
        }

        // Each moves ahead of those that stand behind it; equal PLACES stay by number.
        private void sortRow() {
            for (int i = 1; i < count; i++) {
                for (int j = i; j > 0 && standsAhead(row[j], row[j - 1]); j--) {
                    exchange(j, j - 1);
                }
            }
        }

        private boolean standsAhead(int s, int t) {
            return land.x[s] != land.x[t] ? land.x[s] < land.x[t] : land.y[s] < land.y[t];
        }

        private void shuffleRow() {
            for (int last = count - 1; last >= 1; last--) {
                exchange(last, nextDraw() % (last + 1));
            }
        }

        private void exchange(int i, int j) {
            int moved = row[i];
            row[i] = row[j];
            row[j] = moved;
        }

        private int nextDraw() {
            draws = (draws * 4093 + 15731) % 65536;
            return draws / 8;
        }

        // Those that stand ahead in the row go to the FAMILIES ahead.
        private int dealtTo(int family) {
            int from = 0;
            for (int f = 0; f < family; f++) {
                from += Integer.bitCount(land.heldBy(f));
            }
            int to = Math.min(count, from + Integer.bitCount(land.heldBy(family)));
            int set = 0;
            for (int i = from; i < to; i++) {
                set |= 1 << row[i];
            }
            return set;
        }
    }
}
