/** Promises 13 to 16: judge, witness, blame and differs. */
public final class JudgeTest {
    public static void main(String[] args) {
        notMatching();
        equivalent();
        firstWitness();
        lowestBlame();
        longWitness();
        twoPeriods();
        limitsOfDiffers();
        anewBehindLoad();
        latchesDoNotMatter();
        noOutputs();
        Check.finish();
    }

    private static void dueNoMatch(String what, TwinJudge x) {
        Check.throwing(what + "judge()", x::judge, Check.STATE);
        Check.due(what + "witness(0)", x.witness(0), -1);
        Check.due(what + "witness(-1)", x.witness(-1), -1);
        Check.due(what + "blame()", x.blame(), -1);
        Check.throwing(what + "differs(1)", () -> x.differs(1), Check.STATE);
        // Ahead of the argument's own fault.
        Check.throwing(what + "differs(0)", () -> x.differs(0), Check.STATE);
    }

    private static void notMatching() {
        dueNoMatch("none: ", new TwinJudge());
        for (int c = 0; c < 2; c++) {
            TwinJudge lone = new TwinJudge();
            Check.load(lone, c, "aag 0 0 0 0 0\n");
            dueNoMatch("an empty one alone: ", lone);
        }
        TwinJudge x = new TwinJudge();
        Check.load(x, 1, "aag 1 1 0 1 0\n2\n2\n");
        dueNoMatch("one: ", x);
        Check.load(x, 0, "aag 1 0 0 1 0\n0\n");
        dueNoMatch("inputs: ", x);
        Check.load(x, 0, "aag 1 1 0 2 0\n2\n2\n2\n");
        dueNoMatch("outputs: ", x);
        Check.load(x, 0, "aag 3 1 2 1 0\n6\n2 4\n4 2\n6\n");
        Check.due("latches may differ: judge()", x.judge(), 0);
        Check.load(x, 0, "aag 0 0 0 0 0\n");
        dueNoMatch("again: ", x);
    }

    private static void equivalent() {
        // Circuit 1 has the negation in its latch's stead: not one state of both is alike.
        TwinJudge x = Check.both("aag 2 1 1 1 0\n2\n4 2\n4\n", "aag 5 1 2 1 2\n2\n4 3\n10 1\n6\n6 10 5\n8 4 4\n");
        Check.due("judge()", x.judge(), 0);
        Check.due("witness(0)", x.witness(0), -1);
        Check.due("blame()", x.blame(), -1);
        for (int n = 1; n <= 16; n++) {
            Check.due("differs(" + n + ")", x.differs(n), 0);
        }
        Check.due("doubts()", x.doubts(), 0);
    }

    /** Latch 0 becomes 1 by vectors 1 and 2 and 3, latch 1 by 2 alone; both at the second step tell. */
    private static void firstWitness() {
        Builder b = new Builder();
        int i0 = b.input();
        int i1 = b.input();
        int[] l = b.latches(2);
        b.next(b.or(i0, i1), b.and(i1, i0 ^ 1));
        b.output(b.or(b.and(l[0], b.and(i0, i1)), b.and(l[1], i0)));
        TwinJudge x = new TwinJudge();
        Check.load(x, 0, b.plan().file());
        Check.load(x, 1, "aag 2 2 0 1 0\n2\n4\n0\n");
        Check.due("judge()", x.judge(), 2);
        Check.due("witness(0): 1 3 is ahead of 2 1", x.witness(0), 1);
        Check.due("witness(1)", x.witness(1), 3);
        Check.due("witness(2)", x.witness(2), -1);
        Check.due("witness(-1)", x.witness(-1), -1);
        Check.due("witness(256)", x.witness(256), -1);
        Check.due("witness(MIN)", x.witness(Integer.MIN_VALUE), -1);
        Check.due("witness(MAX)", x.witness(Integer.MAX_VALUE), -1);
        Check.due("blame()", x.blame(), 0);
    }

    private static void lowestBlame() {
        String first = "aag 2 2 0 8 0\n2\n4\n0\n0\n0\n0\n0\n4\n0\n2\n";
        TwinJudge x = Check.both(first, "aag 2 2 0 8 0\n2\n4\n0\n0\n0\n0\n0\n0\n0\n0\n");
        Check.due("witness(0)", x.witness(0), 1);
        Check.due("blame(): what the WITNESS's end tells by", x.blame(), 7);
        Check.load(x, 1, "aag 2 2 0 8 0\n2\n4\n0\n0\n0\n1\n0\n4\n1\n2\n");
        Check.due("witness(0)", x.witness(0), 0);
        Check.due("blame()", x.blame(), 3);
        Check.due("judge()", x.judge(), 1);
    }

    /** Only input 0 moves the counters on, and nothing else does. */
    private static void longWitness() {
        TwinJudge x = Check.both(Builder.counter(6, 2, 63, 63), Builder.counter(6, 2, 63, 62));
        Check.due("judge()", x.judge(), 63);
        for (int k = 0; k < 62; k++) {
            Check.due("witness(" + k + ")", x.witness(k), 1);
        }
        Check.due("witness(62)", x.witness(62), 0);
        Check.due("witness(63)", x.witness(63), -1);
        Check.due("blame()", x.blame(), 0);
        Check.due("differs(16)", x.differs(16), 0);
        Check.due("doubts()", x.doubts(), 0);
    }

    /** Told at 0 alone, periods of 64 and 63: the first difference is behind 63 steps. */
    private static void twoPeriods() {
        TwinJudge x = Check.both(Builder.counter(6, 0, 63, 0), Builder.counter(6, 0, 62, 0));
        Check.due("judge()", x.judge(), 64);
        Check.due("witness(63)", x.witness(63), 0);
        Check.due("witness(64)", x.witness(64), -1);
        Check.due("pairs(0)", x.pairs(0), 64 * 63);
        Check.due("pairs(1)", x.pairs(1), 64 * 63 - 1);
        Check.due("depth(63, 62)", x.depth(63, 62), 64 * 63 - 1);
        Check.due("doubts()", x.doubts(), 0);
    }

    private static void limitsOfDiffers() {
        TwinJudge x = Check.both(Builder.counter(5, 1, 31, 15), Builder.counter(5, 1, 31, 31));
        Check.due("differs(15)", x.differs(15), 0);
        Check.due("differs(16)", x.differs(16), 16);
        Check.due("judge()", x.judge(), 16);
        Check.load(x, 0, Builder.counter(5, 1, 31, 16).file());
        Check.due("differs(16)", x.differs(16), 0);
        Check.due("judge()", x.judge(), 17);
        Check.load(x, 0, Builder.counter(5, 1, 31, 0).file());
        Check.due("differs(1)", x.differs(1), 1);
        for (int bad : new int[] {0, 17, -1, Integer.MIN_VALUE, Integer.MAX_VALUE}) {
            Check.throwing("differs(" + bad + ")", () -> x.differs(bad), Check.ARGUMENT);
        }
        Check.due("doubts()", x.doubts(), 0);
    }

    private static void anewBehindLoad() {
        TwinJudge x = Check.both(Builder.counter(3, 1, 7, 5), Builder.counter(3, 1, 7, 6));
        Check.due("judge()", x.judge(), 6);
        Check.load(x, 1, Builder.counter(3, 1, 7, 5).file());
        Check.due("judge() of the circuits as they are", x.judge(), 0);
        Check.due("witness(0)", x.witness(0), -1);
        Check.load(x, 0, Builder.counter(3, 1, 7, 2).file());
        Check.due("witness(1), no call ahead", x.witness(1), 1);
        Check.load(x, 0, Builder.counter(3, 1, 7, 0).file());
        Check.due("blame(), no call ahead", x.blame(), 0);
        Check.load(x, 0, "aag 1 1 0");
        Check.due("judge() behind a load with a fault", x.judge(), 1);
    }

    private static void latchesDoNotMatter() {
        TwinJudge x = Check.both(Builder.counter(3, 1, 7, 3), Builder.counter(3, 1, 7, 6));
        x.step(1);
        x.step(1);
        Check.due("judge()", x.judge(), 4);
        Check.due("witness(3)", x.witness(3), 0);
        Check.due("state(0)", x.state(0), 2);
        Check.due("state(1)", x.state(1), 2);
    }

    private static void noOutputs() {
        TwinJudge x = Check.both("aag 0 0 0 0 0\n", "aag 1 0 1 0 0\n2 3\n");
        Check.due("judge()", x.judge(), 0);
        Check.due("differs(16)", x.differs(16), 0);
        Check.due("witness(0)", x.witness(0), -1);
    }
}
