/** Promise 17: inductive. */
public final class InductiveTest {
    private static final String ZERO = "aag 1 1 0 1 0\n2\n0\n";

    public static void main(String[] args) {
        chains();
        vectorsCount();
        tellingPairsAreLeft();
        pairsThatDoNotComeUp();
        anewBehindLoad();
        exceptions();
        Check.finish();
    }

    /** Latches in a row, the first one 0: what is in them is told within as many steps as there are. */
    private static Plan row(int n) {
        Builder b = new Builder();
        b.input();
        int[] bits = b.latches(n);
        int[] nexts = new int[n];
        for (int k = 1; k < n; k++) {
            nexts[k] = bits[k - 1];
        }
        b.next(nexts);
        b.output(bits[n - 1]);
        return b.plan();
    }

    private static void chains() {
        for (int n = 1; n <= 6; n++) {
            TwinJudge x = new TwinJudge();
            Check.load(x, 0, row(n).file());
            Check.load(x, 1, ZERO);
            for (int k = 8; k >= 0; k--) {
                Check.due("row of " + n + ": inductive(" + k + ")", x.inductive(k), k >= n);
            }
            Check.due("judge()", x.judge(), 0);
            Check.due("doubts()", x.doubts(), 0);
        }
        TwinJudge x = Check.both(ZERO, ZERO);
        Check.due("inductive(0): nothing can tell", x.inductive(0), true);
        Check.due("inductive(8)", x.inductive(8), true);
    }

    /** The latch holds its 1, and tells by input 1 alone: it can wait with 0 as long as it likes. */
    private static void vectorsCount() {
        TwinJudge x = Check.both("aag 3 1 1 1 1\n2\n4 4\n6\n6 2 4\n", ZERO);
        for (int k = 0; k <= 8; k++) {
            Check.due("inductive(" + k + ")", x.inductive(k), false);
        }
        Check.due("judge()", x.judge(), 0);
    }

    /** It tells at once, and at every step behind: none of those before may tell. */
    private static void tellingPairsAreLeft() {
        TwinJudge x = Check.both("aag 1 1 0 1 0\n2\n1\n", ZERO);
        Check.due("inductive(0)", x.inductive(0), false);
        Check.due("inductive(1): one cannot wait", x.inductive(1), true);
        Check.due("judge()", x.judge(), 1);
        TwinJudge y = Check.both("aag 2 1 1 1 0\n2\n4 1\n4\n", ZERO);
        Check.due("inductive(0)", y.inductive(0), false);
        Check.due("inductive(1)", y.inductive(1), false);
        Check.due("inductive(2)", y.inductive(2), true);
        Check.due("judge()", y.judge(), 2);
        Check.due("doubts()", y.doubts(), 0);
    }

    /** Behind 7 they go to 0; 8 .. 15 do not come up, but lead on to what tells. */
    private static void pairsThatDoNotComeUp() {
        TwinJudge x = Check.both(Builder.counter(4, 0, 7, 15), Builder.counter(4, 0, 7, 14));
        Check.due("judge()", x.judge(), 0);
        Check.due("inductive(0)", x.inductive(0), false);
        Check.due("inductive(7)", x.inductive(7), false);
        Check.due("inductive(8)", x.inductive(8), true);
        Check.load(x, 1, Builder.counter(4, 0, 7, 15).file());
        Check.due("inductive(8) behind a load", x.inductive(8), true);
        Check.load(x, 0, Builder.counter(4, 0, 14, 15).file());
        Check.due("inductive(1)", x.inductive(1), false);
    }

    /** The same circuit once more: what was found for it before must not be taken for a later layer. */
    private static void anewBehindLoad() {
        TwinJudge x = new TwinJudge();
        Check.load(x, 0, row(2).file());
        Check.load(x, 1, ZERO);
        for (int most = 0; most <= 2; most++) {
            Check.load(x, 0, row(2).file());
            Check.due("inductive(" + most + ")", x.inductive(most), most == 2);
            Check.load(x, 0, row(2).file());
            Check.due("inductive(1)", x.inductive(1), false);
            Check.due("inductive(2)", x.inductive(2), true);
        }
        Check.load(x, 0, row(1).file());
        Check.due("inductive(0)", x.inductive(0), false);
        Check.load(x, 0, row(1).file());
        Check.due("inductive(1)", x.inductive(1), true);
    }

    private static void exceptions() {
        TwinJudge x = new TwinJudge();
        Check.throwing("inductive(0)", () -> x.inductive(0) ? 1 : 0, Check.STATE);
        Check.throwing("inductive(9)", () -> x.inductive(9) ? 1 : 0, Check.STATE);
        TwinJudge y = Check.both(ZERO, ZERO);
        for (int bad : new int[] {-1, 9, Integer.MIN_VALUE, Integer.MAX_VALUE}) {
            Check.throwing("inductive(" + bad + ")", () -> y.inductive(bad) ? 1 : 0, Check.ARGUMENT);
        }
        Check.load(y, 0, "aag 0 0 0 1 0\n0\n");
        Check.throwing("inductive(-1)", () -> y.inductive(-1) ? 1 : 0, Check.STATE);
    }
}
