/** Promises 18 and 19: pairs and depth. */
public final class PairsTest {
    public static void main(String[] args) {
        onePair();
        counters();
        allPairs();
        exceptions();
        Check.finish();
    }

    private static void onePair() {
        TwinJudge x = Check.both("aag 0 0 0 0 0\n", "aag 0 0 0 0 0\n");
        Check.due("pairs(0)", x.pairs(0), 1);
        Check.due("pairs(1)", x.pairs(1), 0);
        Check.due("depth(0, 0)", x.depth(0, 0), 0);
    }

    /** They come up though some tell; periods of 5 and 3. */
    private static void counters() {
        TwinJudge x = Check.both(Builder.counter(3, 0, 4, 1), Builder.counter(2, 0, 2, 1));
        Check.due("pairs(0)", x.pairs(0), 15);
        Check.due("pairs(1)", x.pairs(1), 14);
        for (int n = 0; n < 15; n++) {
            Check.due("depth(" + n % 5 + ", " + n % 3 + ")", x.depth(n % 5, n % 3), n);
        }
        Check.due("depth(5, 0)", x.depth(5, 0), -1);
        Check.due("depth(0, 3)", x.depth(0, 3), -1);
        x.step(0);
        Check.due("depth(0, 0): from RESET on, not from the latches as they are", x.depth(0, 0), 0);
        // With an input that stops both, the way is as short as it can be.
        Check.load(x, 0, Builder.counter(3, 1, 7, 1).file());
        Check.load(x, 1, Builder.counter(2, 1, 3, 1).file());
        Check.due("pairs(0)", x.pairs(0), 8);
        Check.due("pairs(1)", x.pairs(1), 7);
        Check.due("depth(5, 1)", x.depth(5, 1), 5);
        Check.due("depth(5, 2)", x.depth(5, 2), -1);
    }

    /** Six latches each; circuit 0 shifts input 0, circuit 1 input 1: all come up. */
    private static void allPairs() {
        TwinJudge x = new TwinJudge();
        String shift = "14 2\n4 14\n6 4\n8 6\n10 8\n12 10\n";
        Check.load(x, 0, "aag 8 2 6 0 0\n2\n16\n" + shift);
        Check.load(x, 1, "aag 8 2 6 0 0\n16\n2\n" + shift);
        Check.due("pairs(0)", x.pairs(0), 4096);
        Check.due("pairs(1)", x.pairs(1), 6);
        Check.due("depth(1, 0)", x.depth(1, 0), 1);
        Check.due("depth(0, 1)", x.depth(0, 1), 1);
        Check.due("depth(2, 1)", x.depth(2, 1), 2);
        Check.due("depth(0, 4)", x.depth(0, 4), 3);
        Check.due("depth(63, 63)", x.depth(63, 63), 6);
        Check.due("doubts()", x.doubts(), 0);
    }

    private static void exceptions() {
        TwinJudge none = new TwinJudge();
        Check.throwing("pairs(0)", () -> none.pairs(0), Check.STATE);
        Check.throwing("pairs(2)", () -> none.pairs(2), Check.STATE);
        Check.throwing("depth(0, 0)", () -> none.depth(0, 0), Check.STATE);
        Check.throwing("depth(-1, 0)", () -> none.depth(-1, 0), Check.STATE);
        TwinJudge x = Check.both(Builder.counter(3, 0, 4, 1), Builder.counter(2, 0, 2, 1));
        for (int bad : new int[] {-1, 2, Integer.MIN_VALUE, Integer.MAX_VALUE}) {
            Check.throwing("pairs(" + bad + ")", () -> x.pairs(bad), Check.ARGUMENT);
        }
        Check.due("depth(7, 3): no bits beyond", x.depth(7, 3), -1);
        int[][] bad = {{8, 0}, {0, 4}, {-1, 0}, {0, -1}, {64, 0}, {0, 64}, {8, 4}, {Integer.MIN_VALUE, 0},
            {0, Integer.MIN_VALUE}, {Integer.MAX_VALUE, 0}, {0, Integer.MAX_VALUE}};
        for (int[] pair : bad) {
            Check.throwing("depth(" + pair[0] + ", " + pair[1] + ")", () -> x.depth(pair[0], pair[1]), Check.ARGUMENT);
        }
        TwinJudge y = Check.both("aag 0 0 0 0 0\n", "aag 6 0 6 0 0\n2 0\n4 0\n6 0\n8 0\n10 0\n12 0\n");
        Check.throwing("depth(1, 0)", () -> y.depth(1, 0), Check.ARGUMENT);
        Check.due("depth(0, 63)", y.depth(0, 63), -1);
        Check.throwing("depth(0, 64)", () -> y.depth(0, 64), Check.ARGUMENT);
    }
}
