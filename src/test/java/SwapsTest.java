/** Promises 32 to 35: SWAPS, RINGS, SETTLED. */
public final class SwapsTest {
    public static void main(String[] args) {
        swaps();
        swap();
        alikeIsNoSwap();
        ring();
        firstRing();
        settle();
        settleByCouples();
        Check.end();
    }

    /** The FAMILY x would rather have b or a (the other's) than c; y gains by both. */
    private static HailHill couple() {
        return Check.hill("strip b at 20 20 gives 20;strip a at 0 0 gives 20;strip c at 60 0 gives 20;"
            + "family x at 0 0 need 10 holds c;family y at 60 0 need 10 holds a holds b;family z at 0 0 need 1;");
    }

    private static void swaps() {
        HailHill hill = couple();
        Check.took("swaps(0, 1)", hill, hill.swaps(0, 1), 2);
        Check.took("swaps(1, 0)", hill, hill.swaps(1, 0), 2);
        Check.took("swaps(0, 2), who has none", hill, hill.swaps(0, 2), 0);
        Check.refused("swaps(0, 0)", hill, hill.swaps(0, 0), 1);
        Check.refused("swaps(0, 3)", hill, hill.swaps(0, 3), 1);
        Check.refused("swaps(3, 0)", hill, hill.swaps(3, 0), 1);
        Check.refused("swaps(-1, 0)", hill, hill.swaps(-1, 0), 1);
        Check.refused("swaps(0, -1)", hill, hill.swaps(0, -1), 1);
        Check.took("nothing is changed", hill, hill.family(0, 3), 4);
    }

    private static void swap() {
        HailHill hill = couple();
        int[][] want = {{0, 1, 0, 0, 2}, {0, 1, 0, 1, 0}, {0, 1, 1, 0, 2}, {0, 1, 1, 1, 1},
            {1, 0, 0, 0, 0}, {1, 0, 0, 1, 2}, {1, 0, 1, 0, 1}, {1, 0, 1, 1, 2}};
        for (int[] row : want) {
            String call = "swap(" + row[0] + ", " + row[1] + ", " + row[2] + ", " + row[3] + ")";
            Check.took(call, hill, hill.swap(row[0], row[1], row[2], row[3]), row[4]);
        }
        Check.refused("swap() no. 2", hill, hill.swap(0, 1, 2, 0), 6);
        Check.refused("swap() no. max", hill, hill.swap(0, 1, Integer.MAX_VALUE, 0), 6);
        Check.refused("swap() no. -1", hill, hill.swap(0, 1, -1, 0), 1);
        Check.refused("swap() what 2", hill, hill.swap(0, 1, 0, 2), 1);
        Check.refused("swap() what -1", hill, hill.swap(0, 1, 0, -1), 1);
        Check.refused("swap() what 2, no such one", hill, hill.swap(0, 1, 9, 2), 1);
        Check.refused("swap() with itself", hill, hill.swap(1, 1, 0, 0), 1);
        Check.refused("swap() with no FAMILY", hill, hill.swap(0, 3, 0, 0), 1);
    }

    private static void alikeIsNoSwap() {
        // Both ways are of equal WORTH for one of them.
        HailHill hill = Check.hill("strip a at 0 0 gives 20;strip b at 0 0 gives 20;"
            + "family x at 0 0 need 10 holds a;family y at 0 0 need 10 holds b;");
        Check.took("swaps() of STRIPS alike", hill, hill.swaps(0, 1), 0);
        Check.took("settle() of STRIPS alike", hill, hill.settle(), 0);
        // One gains, the other loses.
        hill = Check.hill("strip a at 0 0 gives 20;strip b at 0 0 gives 30;"
            + "family x at 0 0 need 10 holds a;family y at 0 0 need 10 holds b;");
        Check.took("swaps() that one wants", hill, hill.swaps(0, 1), 0);
        Check.took("swaps() that the other wants", hill, hill.swaps(1, 0), 0);
    }

    private static HailHill three() {
        return Check.hill("strip a at 0 0 gives 20;strip b at 40 0 gives 20;strip c at 80 0 gives 20;"
            + "family x at 0 0 need 0 holds b;family y at 40 0 need 0 holds c;family z at 80 0 need 0 holds a;"
            + "family w at 0 0 need 0;");
    }

    private static void ring() {
        HailHill hill = three();
        int[][] want = {{0, 1, 2, 1, 2, 0}, {1, 2, 0, 2, 0, 1}, {2, 0, 1, 0, 1, 2}};
        for (int[] row : want) {
            for (int what = 0; what < 3; what++) {
                String call = "ring(" + row[0] + ", " + row[1] + ", " + row[2] + ", " + what + ")";
                Check.took(call, hill, hill.ring(row[0], row[1], row[2], what), row[3 + what]);
            }
        }
        Check.refused("the other way round", hill, hill.ring(0, 2, 1, 0), 6);
        Check.refused("with one who HOLDS none", hill, hill.ring(0, 1, 3, 0), 6);
        Check.refused("ring(0, 0, 1, 0)", hill, hill.ring(0, 0, 1, 0), 1);
        Check.refused("ring(0, 1, 0, 0)", hill, hill.ring(0, 1, 0, 0), 1);
        Check.refused("ring(1, 0, 0, 0)", hill, hill.ring(1, 0, 0, 0), 1);
        Check.refused("ring(4, 1, 2, 0)", hill, hill.ring(4, 1, 2, 0), 1);
        Check.refused("ring(0, 4, 2, 0)", hill, hill.ring(0, 4, 2, 0), 1);
        Check.refused("ring(0, 1, -1, 0)", hill, hill.ring(0, 1, -1, 0), 1);
        Check.refused("ring() what 3", hill, hill.ring(0, 1, 2, 3), 1);
        Check.refused("ring() what -1", hill, hill.ring(0, 2, 1, -1), 1);
        Check.took("nothing is changed", hill, hill.family(0, 3), 2);
    }

    private static void firstRing() {
        // Two STRIPS at each place: the first ring is that of the least numbers.
        HailHill hill = Check.hill("strip f at 0 0 gives 20;strip e at 0 0 gives 20;strip d at 40 0 gives 20;"
            + "strip c at 40 0 gives 20;strip b at 80 0 gives 20;strip a at 80 0 gives 20;"
            + "family x at 0 0 need 0 holds d;family y at 40 0 need 0 holds b;family z at 80 0 need 0 holds f;");
        Check.took("the first's", hill, hill.ring(0, 1, 2, 0), 2);
        Check.took("the second's", hill, hill.ring(0, 1, 2, 1), 4);
        Check.took("the third's", hill, hill.ring(0, 1, 2, 2), 0);
        // z HOLDS f and e, at one place: by giving one it still has to walk there.
        hill.hold(1, 2);
        Check.refused("who has to walk all the same", hill, hill.ring(0, 1, 2, 0), 6);
        // By giving e it has to walk as far as ahead; only the ring with f is wanted by all.
        hill = Check.hill("strip e at 4 0 gives 20;strip f at 0 0 gives 20;strip d at 40 0 gives 20;"
            + "strip b at 80 0 gives 20;"
            + "family x at 0 0 need 0 holds d;family y at 40 0 need 0 holds b;family z at 80 0 need 0 holds e holds f;");
        hill.let(0, 4);
        Check.took("the third's, of two", hill, hill.ring(0, 1, 2, 2), 1);
        hill.hold(1, -1);
        Check.took("the third's, of one", hill, hill.ring(0, 1, 2, 2), 0);
    }

    private static void settle() {
        HailHill hill = couple();
        Check.took("settle()", hill, hill.settle(), 1);
        Check.took("who HOLDS b", hill, hill.strip(0, 4), 0);
        Check.took("who HOLDS a", hill, hill.strip(1, 4), 1);
        Check.took("who HOLDS c", hill, hill.strip(2, 4), 1);
        Check.took("settle() again", hill, hill.settle(), 0);
        Check.took("swaps() then", hill, hill.swaps(0, 1), 0);
    }

    private static void settleByCouples() {
        // x and y would swap, and x and z would: the first couple comes first.
        HailHill hill = Check.hill("strip a at 50 0 gives 20;strip b at 0 0 gives 20;strip c at 0 0 gives 20;"
            + "family x at 0 0 need 0 holds a;family y at 50 0 need 0 holds b;family z at 50 0 need 0 holds c;");
        Check.took("swaps(0, 1)", hill, hill.swaps(0, 1), 1);
        Check.took("swaps(0, 2)", hill, hill.swaps(0, 2), 1);
        Check.took("settle()", hill, hill.settle(), 1);
        Check.took("x HOLDS b", hill, hill.family(0, 3), 2);
        Check.took("y HOLDS a", hill, hill.family(1, 3), 1);
        Check.took("z HOLDS c", hill, hill.family(2, 3), 4);
        hill = three();
        Check.took("settle() of three", hill, hill.settle(), 2);
        Check.took("x HOLDS a", hill, hill.family(0, 3), 1);
        Check.took("y HOLDS b", hill, hill.family(1, 3), 2);
        Check.took("z HOLDS c", hill, hill.family(2, 3), 4);
    }
}
