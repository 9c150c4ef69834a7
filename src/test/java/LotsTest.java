/** Promises 19 to 31: LOTS, NET, WORTH, BEST, BESIDE. */
public final class LotsTest {
    public static void main(String[] args) {
        weight();
        left();
        round();
        net();
        odds();
        hungry();
        worth();
        best();
        climb();
        climbed();
        edge();
        change();
        besideBarn();
        besideCoin();
        besideCousin();
        besideRefused();
        Check.end();
    }

    private static HailHill sample() {
        return Check.hill("strip a at 3 4 gives 10;strip b at 0 0 gives 7 soil 3;blight takes 3 odds 5;"
            + "hail 0 to 0 takes 6 odds 16;family x at 1 1 need 10;");
    }

    private static void weight() {
        HailHill hill = sample();
        long[] want = {0, 0, 176, 80};
        for (int lot = 0; lot < 4; lot++) {
            Check.took("weight(" + lot + ")", hill, hill.weight(lot), want[lot]);
        }
        Check.refused("weight(4)", hill, hill.weight(4), 1);
        Check.refused("weight(-1)", hill, hill.weight(-1), 1);
        StringBuilder six = new StringBuilder();
        for (int i = 0; i < 6; i++) {
            six.append("blight takes 1 odds 16;");
        }
        hill = Check.hill(six.toString());
        Check.took("weight(63)", hill, hill.weight(63), 16777216);
        Check.took("weight(62)", hill, hill.weight(62), 0);
        Check.refused("weight(64)", hill, hill.weight(64), 1);
    }

    private static void left() {
        HailHill hill = sample();
        int[][] want = {{10, 6, 10, 6}, {7, 4, 1, 0}};
        for (int s = 0; s < 2; s++) {
            for (int lot = 0; lot < 4; lot++) {
                Check.took("left(" + s + ", " + lot + ")", hill, hill.left(s, lot), want[s][lot]);
            }
        }
        Check.refused("left(2, 0)", hill, hill.left(2, 0), 1);
        Check.refused("left(-1, 0)", hill, hill.left(-1, 0), 1);
        Check.refused("left(0, 4)", hill, hill.left(0, 4), 1);
        Check.refused("left(0, -1)", hill, hill.left(0, -1), 1);
    }

    private static void round() {
        HailHill hill = sample();
        int[] want = {0, 10, 4, 14};
        for (int set = 0; set < 4; set++) {
            Check.took("round(0, " + set + ")", hill, hill.round(0, set), want[set]);
        }
        Check.refused("round(0, 4)", hill, hill.round(0, 4), 1);
        Check.refused("round(0, -1)", hill, hill.round(0, -1), 1);
        Check.refused("round(1, 0)", hill, hill.round(1, 0), 1);
        Check.refused("round(-1, 0)", hill, hill.round(-1, 0), 1);
        // In the order of their numbers it would be 28 steps.
        hill = Check.hill("strip a at 10 0 gives 1;strip b at 1 0 gives 1;strip c at 5 0 gives 1;"
            + "family x at 0 0 need 1;family y at 5 5 need 1;");
        Check.took("round() along a line", hill, hill.round(0, 7), 20);
        Check.took("round() from the side", hill, hill.round(1, 7), 28);
        // All ten, out along one row and home along the other.
        StringBuilder ten = new StringBuilder();
        int[] xs = {3, 1, 4, 0, 2, 2, 0, 4, 1, 3};
        for (int i = 0; i < 10; i++) {
            ten.append("strip ").append((char) ('a' + i)).append(" at ").append(xs[i] * 20).append(i < 5 ? " 0" : " 1");
            ten.append(" gives 1;");
        }
        hill = Check.hill(ten + "family x at 0 0 need 1;");
        Check.took("round() of ten", hill, hill.round(0, 1023), 162);
        Check.refused("round() of an eleventh", hill, hill.round(0, 1024), 1);
    }

    private static void net() {
        HailHill hill = sample();
        int[] want = {16, 9, 10, 5};
        for (int lot = 0; lot < 4; lot++) {
            Check.took("net(0, 3, " + lot + ")", hill, hill.net(0, 3, lot), want[lot]);
        }
        Check.took("net() of none", hill, hill.net(0, 0, 0), 0);
        hill.let(0, 1);
        Check.took("net() by PACE 1", hill, hill.net(0, 3, 0), 3);
        Check.took("net() that would be below 0", hill, hill.net(0, 3, 3), 0);
        hill.let(0, 7);
        Check.took("net() by PACE 7", hill, hill.net(0, 3, 0), 15);
        Check.refused("net(1, 0, 0)", hill, hill.net(1, 0, 0), 1);
        Check.refused("net(-1, 0, 0)", hill, hill.net(-1, 0, 0), 1);
        Check.refused("net(0, 4, 0)", hill, hill.net(0, 4, 0), 1);
        Check.refused("net(0, -1, 0)", hill, hill.net(0, -1, 0), 1);
        Check.refused("net(0, 3, 4)", hill, hill.net(0, 3, 4), 1);
        Check.refused("net(0, 3, -1)", hill, hill.net(0, 3, -1), 1);
    }

    private static void odds() {
        HailHill hill = sample();
        int[][] want = {{0, 0, 1}, {4, 0, 1}, {5, 5, 16}, {9, 5, 16}, {10, 1, 1}, {9999, 1, 1}};
        for (int[] row : want) {
            Check.took("odds(0, 3, " + row[0] + ")", hill, hill.odds(0, 3, row[0]));
            Check.fraction("odds(0, 3, " + row[0] + ")", hill, row[1], row[2]);
        }
        Check.refused("odds(0, 3, 10000)", hill, hill.odds(0, 3, 10000), 1);
        Check.refused("odds(0, 3, -1)", hill, hill.odds(0, 3, -1), 1);
        Check.refused("odds(0, 4, 1)", hill, hill.odds(0, 4, 1), 1);
        Check.refused("odds(1, 3, 1)", hill, hill.odds(1, 3, 1), 1);
        Check.fraction("behind refused ones", hill, 1, 1);
    }

    private static void hungry() {
        HailHill hill = sample();
        Check.took("hungry(0, 3)", hill, hill.hungry(0, 3));
        Check.fraction("hungry(0, 3)", hill, 5, 16);
        Check.took("hungry(0, 0)", hill, hill.hungry(0, 0));
        Check.fraction("hungry(0, 0)", hill, 1, 1);
        Check.refused("hungry(0, 4)", hill, hill.hungry(0, 4), 1);
        Check.refused("hungry(0, -1)", hill, hill.hungry(0, -1), 1);
        Check.refused("hungry(1, 0)", hill, hill.hungry(1, 0), 1);
        hill = Check.hill("family x at 0 0 need 0;");
        Check.took("hungry() without NEED", hill, hill.hungry(0, 0));
        Check.fraction("hungry() without NEED", hill, 0, 1);
    }

    private static void worth() {
        HailHill hill = sample();
        int[][] want = {{1, 55, 8}, {0, 135, 16}, {3, 15, 4}, {99, -585, 4}};
        for (int[] row : want) {
            hill.let(1, row[0]);
            Check.took("worth() by HUNGER " + row[0], hill, hill.worth(0, 3));
            Check.fraction("worth() by HUNGER " + row[0], hill, row[1], row[2]);
        }
        Check.took("worth() of none", hill, hill.worth(0, 0));
        Check.fraction("worth() of none", hill, -990, 1);
        Check.refused("worth(0, 4)", hill, hill.worth(0, 4), 1);
        Check.refused("worth(0, -1)", hill, hill.worth(0, -1), 1);
        Check.refused("worth(1, 0)", hill, hill.worth(1, 0), 1);
        Check.refused("worth(-1, 0)", hill, hill.worth(-1, 0), 1);
    }

    /** A rich STRIP that hail takes in half of the years, and a poor one that it never takes. */
    private static HailHill risky() {
        return Check.hill("strip a at 0 0 gives 40;strip b at 1 0 gives 15;hail 0 to 0 takes 8 odds 8;"
            + "family x at 0 0 need 10;family y at 0 0 need 10;");
    }

    private static void best() {
        HailHill hill = risky();
        Check.took("best(0, 1), both alike", hill, hill.best(0, 1), 1);
        Check.fraction("best(0, 1), both alike", hill, 15, 1);
        hill.let(1, 2);
        Check.took("best(0, 1) by HUNGER 2", hill, hill.best(0, 1), 2);
        Check.fraction("best(0, 1) by HUNGER 2", hill, 15, 1);
        Check.took("best(0, 2)", hill, hill.best(0, 2), 3);
        Check.fraction("best(0, 2)", hill, 35, 1);
        Check.refused("best(0, 3)", hill, hill.best(0, 3), 6);
        hill.hold(1, 0);
        Check.took("best() with one's own", hill, hill.best(0, 1), 2);
        hill.hold(1, 1);
        Check.took("best() without another's", hill, hill.best(0, 1), 1);
        Check.refused("best(0, 2) without another's", hill, hill.best(0, 2), 6);
        Check.refused("best(0, 0)", hill, hill.best(0, 0), 1);
        Check.refused("best(0, 7)", hill, hill.best(0, 7), 1);
        Check.refused("best(2, 1)", hill, hill.best(2, 1), 1);
        Check.refused("best(-1, 1)", hill, hill.best(-1, 1), 1);
        Check.refused("best(2, 0)", hill, hill.best(2, 0), 1);
        StringBuilder ten = new StringBuilder();
        for (int i = 0; i < 10; i++) {
            ten.append("strip ").append((char) ('a' + i)).append(" at 0 0 gives ").append(10 + i).append(';');
        }
        hill = Check.hill(ten + "family x at 0 0 need 0;");
        Check.took("best() of 5 of 10", hill, hill.best(0, 5), 1023 - 31);
        Check.took("best() of 6 of 10", hill, hill.best(0, 6), 1023 - 15);
        Check.fraction("best() of 6 of 10", hill, 99, 1);
    }

    private static void climb() {
        HailHill hill = Check.hill("strip a at 0 0 gives 10;strip b at 0 0 gives 20;strip c at 0 0 gives 30;"
            + "strip d at 0 0 gives 40;strip e at 0 0 gives 99;"
            + "family x at 0 0 need 0 holds a holds b;family y at 0 0 need 0 holds e;family z at 0 0 need 5;");
        Check.took("climb(0)", hill, hill.climb(0), 12);
        Check.fraction("climb(0)", hill, 70, 1);
        Check.took("climbed() by two", hill, hill.climbed(), 2);
        Check.took("nothing is changed", hill, hill.family(0, 3), 3);
        Check.took("climb() of none", hill, hill.climb(2), 0);
        Check.fraction("climb() of none", hill, -5, 1);
        Check.took("climb() from the top", hill, hill.climb(1), 16);
        Check.refused("climb(3)", hill, hill.climb(3), 1);
        Check.refused("climb(-1)", hill, hill.climb(-1), 1);
        // Two STRIPS alike: the least set; then WORTH does not grow by the other one.
        hill = Check.hill("strip a at 0 0 gives 10;strip b at 0 0 gives 30;strip c at 0 0 gives 30;"
            + "family x at 0 0 need 0 holds a;");
        Check.took("climb() to one of two", hill, hill.climb(0), 2);
        Check.took("climbed() to one of two", hill, hill.climbed(), 1);
        hill = Check.hill("strip a at 0 0 gives 30;strip b at 0 0 gives 10;strip c at 0 0 gives 30;"
            + "strip d at 0 0 gives 10;family x at 0 0 need 0 holds b holds d;");
        Check.took("climb() with two of a kind", hill, hill.climb(0), 5);
        Check.took("climbed() with two of a kind", hill, hill.climbed(), 2);
        // From a hill of its own it does not see the better one across: both STRIPS would have to go.
        hill = Check.hill("strip a at 10 0 gives 20;strip b at 10 0 gives 20;strip c at 90 0 gives 30;"
            + "strip d at 90 0 gives 30;family x at 10 0 need 0 holds a holds b;");
        Check.took("what is better", hill, hill.best(0, 2), 12);
        Check.took("climb() stays below", hill, hill.climb(0), 3);
        Check.took("climbed() by none", hill, hill.climbed(), 0);
    }

    private static void climbed() {
        HailHill hill = risky();
        Check.refused("climbed() ahead of any", hill, hill.climbed(), 6);
        hill.climb(7);
        Check.refused("climbed() behind a refused one", hill, hill.climbed(), 6);
        hill.hold(1, 0);
        hill.let(1, 0);
        Check.took("climb() by HUNGER 0", hill, hill.climb(0), 1);
        Check.took("climbed()", hill, hill.climbed(), 1);
        hill.climb(7);
        Check.took("climbed() behind a refused one", hill, hill.climbed(), 1);
        hill.village(0);
        Check.took("climbed() in another VILLAGE", hill, hill.climbed(), 1);
    }

    private static void edge() {
        HailHill hill = risky();
        Check.took("edge(0, 1)", hill, hill.edge(0, 1), 2);
        hill.let(1, 50);
        Check.took("edge(0, 1) by another HUNGER", hill, hill.edge(0, 1), 2);
        Check.took("HUNGER is as it was", hill, hill.best(0, 1), 2);
        Check.refused("edge() of all", hill, hill.edge(0, 2), 6);
        Check.refused("edge() of too many", hill, hill.edge(0, 3), 6);
        Check.refused("edge(0, 0)", hill, hill.edge(0, 0), 1);
        Check.refused("edge(0, 7)", hill, hill.edge(0, 7), 1);
        Check.refused("edge(2, 1)", hill, hill.edge(2, 1), 1);
        Check.refused("edge(-1, 1)", hill, hill.edge(-1, 1), 1);
        // In sixteenths WORTH is 1485 less HUNGER, and 1392 (then 1360) without the hail.
        hill = Check.hill("strip a at 0 0 gives 99;strip b at 1 0 gives 87;hail 0 to 0 takes 8 odds 1;family x at 0 0 need 1;");
        Check.took("edge() of 94", hill, hill.edge(0, 1), 94);
        hill = Check.hill("strip a at 0 0 gives 99;strip b at 1 0 gives 85;hail 0 to 0 takes 8 odds 1;family x at 0 0 need 1;");
        Check.refused("edge() above 99", hill, hill.edge(0, 1), 6);
        // 1410 less HUNGER against 1312, 1395 less HUNGER against 1296.
        hill = Check.hill("strip a at 0 0 gives 94;strip b at 1 0 gives 82;hail 0 to 0 takes 8 odds 1;family x at 0 0 need 1;");
        Check.took("edge() of 99", hill, hill.edge(0, 1), 99);
        hill = Check.hill("strip a at 0 0 gives 93;strip b at 1 0 gives 81;hail 0 to 0 takes 8 odds 1;family x at 0 0 need 1;");
        Check.refused("edge() of 100", hill, hill.edge(0, 1), 6);
    }

    private static void change() {
        HailHill hill = risky();
        Check.took("change() to 0", hill, hill.change(0, 1, 0, 0), 0);
        Check.took("change() to what it is", hill, hill.change(0, 1, 0, 8), 0);
        Check.took("change() to 9", hill, hill.change(0, 1, 0, 9), 1);
        Check.took("change() to 16", hill, hill.change(0, 1, 0, 16), 1);
        Check.took("odds are as they were", hill, hill.harm(0, 2), 8);
        Check.took("BEST is as it was", hill, hill.best(0, 1), 1);
        Check.refused("change() of too many", hill, hill.change(0, 3, 0, 9), 6);
        Check.refused("change() to 17", hill, hill.change(0, 1, 0, 17), 1);
        Check.refused("change() to -1", hill, hill.change(0, 1, 0, -1), 1);
        Check.refused("change() of no HARM", hill, hill.change(0, 1, 1, 9), 1);
        Check.refused("change() of HARM -1", hill, hill.change(0, 1, -1, 9), 1);
        Check.refused("change() of no FAMILY", hill, hill.change(2, 1, 0, 9), 1);
        Check.refused("change() of size 0", hill, hill.change(0, 0, 0, 9), 1);
        Check.refused("change() of size 7", hill, hill.change(0, 7, 0, 9), 1);
        Check.refused("change() of too many, no odds", hill, hill.change(0, 3, 0, 17), 1);
    }

    /** NET is 30, or 0 in a quarter of the years; NEED is 10. The second HARM does nothing by itself. */
    private static HailHill twoYears(int cousinNeed) {
        return Check.hill("strip a at 0 0 gives 30;strip b at 5 0 gives 15;hail 0 to 0 takes 8 odds 4;"
            + "blight takes 0 odds 8;family x at 0 0 need 10 holds a;family y at 5 0 need " + cousinNeed + " holds b;");
    }

    private static void beside(HailHill hill, int barn, int cousin, int harm, int premium, int cover, int top, int bottom) {
        String call = "beside(0, " + barn + ", " + cousin + ", " + harm + ", " + premium + ", " + cover + ")";
        Check.took(call, hill, hill.beside(0, barn, cousin, harm, premium, cover));
        Check.fraction(call, hill, top, bottom);
    }

    private static void besideBarn() {
        HailHill hill = twoYears(5);
        beside(hill, 0, -1, -1, 0, 0, 1, 4);
        beside(hill, 19, -1, -1, 0, 0, 1, 4);
        beside(hill, 20, -1, -1, 0, 0, 1, 16);
        beside(hill, 999, -1, -1, 0, 0, 1, 16);
        // Without COIN its numbers do nothing.
        beside(hill, 0, -1, -1, 99, 99, 1, 4);
        hill.hold(0, -1);
        beside(hill, 999, -1, -1, 0, 0, 1, 1);
    }

    private static void besideCoin() {
        HailHill hill = twoYears(5);
        beside(hill, 0, -1, 0, 0, 9, 1, 4);
        beside(hill, 0, -1, 0, 2, 10, 0, 1);
        beside(hill, 0, -1, 0, 20, 10, 0, 1);
        beside(hill, 0, -1, 0, 21, 10, 3, 4);
        beside(hill, 0, -1, 0, 99, 9, 1, 1);
        // The premium lessens what is laid in: 18, and 9 stay.
        beside(hill, 20, -1, 0, 2, 0, 1, 4);
        // A cover in the first year is laid in, too: 22, and 11 stay.
        beside(hill, 999, -1, 1, 2, 4, 7, 64);
    }

    private static void besideCousin() {
        HailHill hill = twoYears(5);
        beside(hill, 0, 1, -1, 0, 0, 0, 1);
        hill = twoYears(6);
        beside(hill, 0, 1, -1, 0, 0, 1, 4);
        // What stays in the barn and the gift go together.
        beside(hill, 2, 1, -1, 0, 0, 1, 16);
        hill = twoYears(99);
        beside(hill, 0, 1, -1, 0, 0, 1, 4);
        // By what the COUSIN HOLDS: nothing.
        hill = twoYears(5);
        hill.hold(1, -1);
        beside(hill, 0, 1, -1, 0, 0, 1, 4);
    }

    private static void besideRefused() {
        HailHill hill = twoYears(5);
        hill.hungry(0, 1);
        Check.refused("no FAMILY", hill, hill.beside(2, 0, -1, -1, 0, 0), 1);
        Check.refused("FAMILY -1", hill, hill.beside(-1, 0, -1, -1, 0, 0), 1);
        Check.refused("barn -1", hill, hill.beside(0, -1, -1, -1, 0, 0), 1);
        Check.refused("barn 1000", hill, hill.beside(0, 1000, -1, -1, 0, 0), 1);
        Check.refused("cousin itself", hill, hill.beside(0, 0, 0, -1, 0, 0), 1);
        Check.refused("cousin 2", hill, hill.beside(0, 0, 2, -1, 0, 0), 1);
        Check.refused("cousin -2", hill, hill.beside(0, 0, -2, -1, 0, 0), 1);
        Check.refused("harm 2", hill, hill.beside(0, 0, -1, 2, 0, 0), 1);
        Check.refused("harm -2", hill, hill.beside(0, 0, -1, -2, 0, 0), 1);
        Check.refused("premium 100", hill, hill.beside(0, 0, -1, 0, 100, 0), 1);
        Check.refused("premium -1", hill, hill.beside(0, 0, -1, 0, -1, 0), 1);
        Check.refused("cover 100", hill, hill.beside(0, 0, -1, 0, 0, 100), 1);
        Check.refused("cover -1", hill, hill.beside(0, 0, -1, 0, 0, -1), 1);
        Check.fraction("behind refused ones", hill, 1, 4);
    }
}
