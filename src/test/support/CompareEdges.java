/** The sentences of promises 12 to 22: what compares the circuits. */
final class CompareEdges {
    private static final String NOTHING = "aag 0 0 0 0 0\n";
    private static final String ZERO = "aag 1 1 0 1 0\n2\n0\n";
    private static final String WIRE = "aag 1 1 0 1 0\n2\n2\n";
    private static final String DELAY = "aag 2 1 1 1 0\n2\n4 2\n4\n";
    /** Inputs 2 and 10, latch 6 that takes the first one; variables 2 and 4 are defined nowhere. */
    private static final String GAPS = "aag 6 2 1 0 1\n2\n10\n6 2\n12 6 10\n";
    private static final int[] FAR = {Integer.MIN_VALUE, Integer.MIN_VALUE + 1, -1000, -256, -64, -2, -1, 64, 256, 1000,
        4096, 65536, 1 << 30, Integer.MAX_VALUE - 1, Integer.MAX_VALUE};

    private final Sentence sentence;

    CompareEdges(Sentence sentence) {
        this.sentence = sentence;
    }

    void all() {
        gates();
        judge();
        witness();
        blame();
        differs();
        inductive();
        pairs();
        depth();
        same();
        twin();
        doubts();
    }

    /** None, one alone, inputs or outputs that are not as many. */
    private static TwinJudge[] unlike() {
        TwinJudge second = new TwinJudge();
        Check.load(second, 1, DELAY);
        return new TwinJudge[] {new TwinJudge(), Check.one(DELAY), second, Check.both(DELAY, "aag 0 0 0 1 0\n0\n"),
            Check.both(DELAY, "aag 1 1 0 0 0\n2\n"), Check.both("aag 1 1 0 2 0\n2\n2\n0\n", DELAY)};
    }

    /**
     * A count of 6 bits that vector 31 alone moves on; behind 63 comes another number, 0 or 1. The
     * output is 1 at 63: with 0 that is behind 63, 127, .. steps, with 1 behind 63, 126, .. of them.
     */
    private static Plan late(int behind) {
        Builder b = new Builder();
        int[] inputs = {b.input(), b.input(), b.input(), b.input(), b.input()};
        int[] count = b.latches(6);
        int on = b.equal(inputs, 31);
        int[] sum = b.more(count, on);
        int last = b.equal(count, 63);
        if (behind == 1) {
            sum[0] = b.or(sum[0], b.and(last, on));
        }
        b.next(sum);
        b.output(last);
        return b.plan();
    }

    private void gates() {
        sentence.holds("Promise 12", "How many gates there are.", () -> {
            Check.due("gates()", Check.both(NOTHING, NOTHING).gates(), 0);
            Check.due("gates()", Check.both(WIRE, "aag 2 1 0 1 1\n2\n4\n4 2 2\n").gates(), 0);
            Check.due("gates()", Check.both(WIRE, "aag 3 1 1 1 1\n2\n4 2\n6\n6 2 4\n").gates(), 1);
            for (TwinJudge x : unlike()) {
                Check.throwing("gates()", x::gates, Check.STATE);
            }
            // Of the circuits as they are: behind a load, and behind one that was refused.
            TwinJudge x = Check.both(WIRE, "aag 3 1 1 1 1\n2\n4 2\n6\n6 2 4\n");
            Check.due("gates()", x.gates(), 1);
            Check.load(x, 0, "aag 4 1 1 1 2\n2\n4 2\n8\n6 2 4\n8 6 3\n");
            Check.due("gates()", x.gates(), 3);
            Check.load(x, 0, "aag 4");
            Check.due("gates()", x.gates(), 3);
            Check.load(x, 0, WIRE);
            Check.due("gates(): those of an earlier circuit are gone", x.gates(), 1);
            Check.load(x, 0, NOTHING);
            Check.throwing("gates()", x::gates, Check.STATE);
        });
    }

    private void judge() {
        sentence.holds("Promise 13", "The LENGTH; 0 if they are EQUIVALENT.", () -> {
            Check.due("judge()", Check.both(DELAY, DELAY).judge(), 0);
            Check.due("judge()", Check.both(NOTHING, NOTHING).judge(), 0);
            Check.due("judge()", Check.both(WIRE, ZERO).judge(), 1);
            Check.due("judge()", Check.both(DELAY, ZERO).judge(), 2);
            // As late as two circuits of 64 states each can be told apart, and not at all.
            TwinJudge x = Check.both(late(0), late(1));
            Check.due("judge()", x.judge(), 127);
            Check.due("judge() asked again", x.judge(), 127);
            Check.load(x, 1, late(0).file());
            Check.due("judge()", x.judge(), 0);
            for (TwinJudge y : unlike()) {
                Check.throwing("judge()", y::judge, Check.STATE);
            }
        });
    }

    private void witness() {
        sentence.holds("Promise 14", "Vector k of the WITNESS of the circuits as they are (no call is needed ahead),", () -> {
            TwinJudge x = Check.both(DELAY, ZERO);
            Check.due("witness(1)", x.witness(1), 0);
            Check.due("witness(0)", x.witness(0), 1);
            Check.load(x, 1, "aag 1 1 0 1 0\n2\n1\n");
            Check.due("witness(0) behind a load", x.witness(0), 0);
            Check.due("witness(1) behind a load", x.witness(1), -1);
            Check.load(x, 0, "aag 1 1 0 1 0\n2\n1\n");
            Check.due("witness(0) behind another one", x.witness(0), -1);
            Check.load(x, 0, "aag 1 1 0 1 0\n2\n2\n");
            Check.load(x, 0, "aag");
            Check.due("witness(0) behind a load that was refused", x.witness(0), 0);
            x.step(1);
            Check.due("witness(0) behind a step", x.witness(0), 0);
        });
        sentence.holds("Promise 14", "if k is 0 .. 255;", () -> {
            TwinJudge x = Check.both(late(0), late(1));
            for (int k = 0; k < 126; k++) {
                Check.due("witness(" + k + ")", x.witness(k), 31);
            }
            Check.due("witness(126)", x.witness(126), 0);
            Check.due("witness(-1)", x.witness(-1), -1);
            Check.due("witness(255)", x.witness(255), -1);
            for (int k : FAR) {
                if (k != 64) {
                    Check.due("witness(" + k + ")", x.witness(k), -1);
                }
            }
        });
        sentence.holds("Promise 14", "NONE without one, or behind its end, or if they do not match.", () -> {
            for (TwinJudge x : unlike()) {
                for (int k : new int[] {-1, 0, 1, 255, 256}) {
                    Check.due("witness(" + k + ")", x.witness(k), -1);
                }
            }
            TwinJudge none = Check.both(DELAY, DELAY);
            TwinJudge one = Check.both(WIRE, ZERO);
            Check.due("witness(0)", one.witness(0), 1);
            for (int k = -1; k <= 256; k++) {
                Check.due("witness(" + k + ") without one", none.witness(k), -1);
                if (k != 0) {
                    Check.due("witness(" + k + ") of one vector", one.witness(k), -1);
                }
            }
            Check.due("witness(127) of 127 vectors", Check.both(late(1), late(0)).witness(127), -1);
        });
    }

    private void blame() {
        sentence.holds("Promise 15", "The lowest output that tells at the WITNESS's end (likewise);", () -> {
            String zeros = "aag 2 2 0 8 0\n2\n4\n" + "0\n".repeat(8);
            // Output 7 by vector 1, outputs 2 and 5 by vector 2: the WITNESS is 1.
            TwinJudge x = Check.both(zeros, "aag 2 2 0 8 0\n2\n4\n0\n0\n4\n0\n0\n4\n0\n2\n");
            Check.due("blame(), no call ahead", x.blame(), 7);
            Check.due("witness(0)", x.witness(0), 1);
            Check.load(x, 1, "aag 2 2 0 8 0\n2\n4\n0\n0\n2\n0\n0\n2\n0\n4\n");
            Check.due("blame() of the circuits as they are", x.blame(), 2);
            Check.load(x, 0, "aag 2 2 0 8 0\n2\n4\n0\n0\n2\n0\n0\n0\n0\n0\n");
            Check.due("blame()", x.blame(), 5);
            Check.load(x, 0, "aag 2 2 0 8 0\n2\n4\n1\n0\n2\n0\n0\n0\n0\n0\n");
            Check.due("blame()", x.blame(), 0);
            // At its end, not at RESET: nothing tells there.
            TwinJudge y = Check.both("aag 2 1 1 2 0\n2\n4 2\n0\n4\n", "aag 1 1 0 2 0\n2\n0\n0\n");
            Check.due("blame()", y.blame(), 1);
            Check.due("judge()", y.judge(), 2);
        });
        sentence.holds("Promise 15", "NONE without one, if it has more than 256 vectors, or if they do not match.", () -> {
            Check.due("blame() without one", Check.both(DELAY, DELAY).blame(), -1);
            Check.due("blame() without outputs", Check.both(NOTHING, NOTHING).blame(), -1);
            for (TwinJudge x : unlike()) {
                Check.due("blame()", x.blame(), -1);
            }
            // 128 states in all are told apart within 127 vectors: none has more than 256.
            Check.due("blame() of 127 vectors", Check.both(late(0), late(1)).blame(), 0);
        });
    }

    private void differs() {
        sentence.holds("Promise 16", "The LENGTH, if it is at most n; 0 if it is not.", () -> {
            for (int length = 1; length <= 18; length++) {
                TwinJudge x = Check.both(Builder.counter(5, 1, 31, length - 1), Builder.counter(5, 1, 31, 31));
                for (int n = 1; n <= 16; n++) {
                    Check.due("differs(" + n + ") with a LENGTH of " + length, x.differs(n), length <= n ? length : 0);
                }
                Check.due("judge()", x.judge(), length);
            }
            TwinJudge none = Check.both(DELAY, DELAY);
            for (int n = 1; n <= 16; n++) {
                Check.due("differs(" + n + ") of equivalent ones", none.differs(n), 0);
            }
            Check.due("differs(16) with a LENGTH of 127", Check.both(late(0), late(1)).differs(16), 0);
            for (TwinJudge x : unlike()) {
                Check.throwing("differs(1)", () -> x.differs(1), Check.STATE);
            }
        });
        sentence.holds("Promise 16", "IllegalArgumentException: n is not 1 .. 16.", () -> {
            TwinJudge x = Check.both(WIRE, ZERO);
            TwinJudge y = Check.both(DELAY, DELAY);
            Check.due("differs(1)", x.differs(1), 1);
            Check.due("differs(16)", x.differs(16), 1);
            for (int n : new int[] {0, 17, 32}) {
                Check.throwing("differs(" + n + ")", () -> x.differs(n), Check.ARGUMENT);
                Check.throwing("differs(" + n + ")", () -> y.differs(n), Check.ARGUMENT);
            }
            for (int n : FAR) {
                Check.throwing("differs(" + n + ")", () -> x.differs(n), Check.ARGUMENT);
            }
            Check.due("differs(1) behind them", x.differs(1), 1);
        });
    }

    /** A row of latches, the first one 0: a 1 in the first one tells behind all the others. */
    private static Plan row(int n) {
        Builder b = new Builder();
        b.input();
        int[] bits = b.latches(n);
        int[] nexts = new int[n];
        System.arraycopy(bits, 0, nexts, 1, n - 1);
        b.next(nexts);
        b.output(bits[n - 1]);
        return b.plan();
    }

    private void inductive() {
        sentence.holds("Promise 17", "Whether it is INDUCTIVE for k.", () -> {
            for (int n = 1; n <= 6; n++) {
                TwinJudge x = new TwinJudge();
                Check.load(x, 1, row(n).file());
                Check.load(x, 0, ZERO);
                for (int k = 0; k <= 8; k++) {
                    Check.due("inductive(" + k + ") of a row of " + n, x.inductive(k), k >= n);
                }
            }
            // From 8 on to 15 there are 7 steps, from 7 on there are 8: no wait of 8, and one.
            TwinJudge eight = Check.both(Builder.counter(4, 0, 7, 15), Builder.counter(4, 0, 7, 14));
            Check.due("inductive(8)", eight.inductive(8), true);
            Check.due("inductive(7)", eight.inductive(7), false);
            TwinJudge nine = Check.both(Builder.counter(4, 0, 6, 15), Builder.counter(4, 0, 6, 14));
            Check.due("inductive(8)", nine.inductive(8), false);
            Check.due("inductive(0)", nine.inductive(0), false);
            // Behind a load it is another question.
            Check.load(nine, 1, Builder.counter(4, 0, 6, 15).file());
            Check.load(nine, 0, "aag 0 0 0 1 0\n0\n");
            Check.due("inductive(8)", nine.inductive(8), false);
            Check.load(nine, 1, "aag 0 0 0 1 0\n0\n");
            Check.due("inductive(0)", nine.inductive(0), true);
            // The same circuit loaded again, with and without a call in between.
            TwinJudge again = new TwinJudge();
            Check.load(again, 0, ZERO);
            for (int n = 0; n < 3; n++) {
                Check.load(again, 1, row(2).file());
                Check.due("inductive(" + n + ")", again.inductive(n), n == 2);
                Check.load(again, 1, row(2).file());
                Check.due("inductive(1)", again.inductive(1), false);
                Check.due("inductive(2)", again.inductive(2), true);
            }
            for (TwinJudge x : unlike()) {
                Check.throwing("inductive(0)", () -> x.inductive(0) ? 1 : 0, Check.STATE);
                Check.throwing("inductive(8)", () -> x.inductive(8) ? 1 : 0, Check.STATE);
            }
        });
        sentence.holds("Promise 17", "IllegalArgumentException: k is not 0 .. 8.", () -> {
            TwinJudge x = Check.both(WIRE, WIRE);
            Check.due("inductive(0)", x.inductive(0), true);
            Check.due("inductive(8)", x.inductive(8), true);
            for (int k : new int[] {-1, 9, 10, 16}) {
                Check.throwing("inductive(" + k + ")", () -> x.inductive(k) ? 1 : 0, Check.ARGUMENT);
            }
            for (int k : FAR) {
                Check.throwing("inductive(" + k + ")", () -> x.inductive(k) ? 1 : 0, Check.ARGUMENT);
            }
        });
    }

    private void pairs() {
        String six = "14 2\n4 14\n6 4\n8 6\n10 8\n12 10\n";
        sentence.holds("Promise 18", "How many pairs come up (what = 0), the greatest DEPTH (1).", () -> {
            TwinJudge least = Check.both(NOTHING, NOTHING);
            Check.due("pairs(0)", least.pairs(0), 1);
            Check.due("pairs(1)", least.pairs(1), 0);
            TwinJudge still = Check.both("aag 6 0 6 0 0\n2 2\n4 4\n6 6\n8 8\n10 10\n12 12\n", "aag 1 0 1 0 0\n2 2\n");
            Check.due("pairs(0)", still.pairs(0), 1);
            Check.due("pairs(1)", still.pairs(1), 0);
            TwinJudge most = Check.both("aag 8 2 6 0 0\n2\n16\n" + six, "aag 8 2 6 0 0\n16\n2\n" + six);
            Check.due("pairs(0)", most.pairs(0), 4096);
            Check.due("pairs(1)", most.pairs(1), 6);
            // One behind the other, by one vector of 32; they go on though they tell.
            TwinJudge deep = Check.both(late(0), late(1));
            Check.due("pairs(1)", deep.pairs(1), 4032);
            Check.due("pairs(0)", deep.pairs(0), 4033);
            Check.load(deep, 1, late(0).file());
            Check.due("pairs(0) behind a load", deep.pairs(0), 64);
            Check.due("pairs(1) behind a load", deep.pairs(1), 63);
            for (TwinJudge x : unlike()) {
                Check.throwing("pairs(0)", () -> x.pairs(0), Check.STATE);
                Check.throwing("pairs(1)", () -> x.pairs(1), Check.STATE);
            }
        });
        sentence.holds("Promise 18", "IllegalArgumentException for another what.", () -> {
            TwinJudge x = Check.both(DELAY, DELAY);
            for (int what : new int[] {-1, 2, 3}) {
                Check.throwing("pairs(" + what + ")", () -> x.pairs(what), Check.ARGUMENT);
            }
            for (int what : FAR) {
                Check.throwing("pairs(" + what + ")", () -> x.pairs(what), Check.ARGUMENT);
            }
            Check.due("pairs(0)", x.pairs(0), 2);
        });
    }

    private void depth() {
        sentence.holds("Promise 19", "The DEPTH of the pair with states s and t (as state() tells them);", () -> {
            // Latch 0 of circuit 0 becomes 1 at once, latch 1 a step later; the latch of circuit 1 two steps later.
            TwinJudge x = Check.both("aag 3 0 2 0 0\n6 1\n2 6\n", "aag 3 0 3 0 0\n2 1\n4 2\n6 4\n");
            int[][] due = {{0, 0}, {1, 1}, {3, 3}, {3, 7}};
            for (int n = 0; n < 4; n++) {
                Check.due("depth(" + due[n][0] + ", " + due[n][1] + ")", x.depth(due[n][0], due[n][1]), n);
                Check.due("state(0)", x.state(0), due[n][0]);
                Check.due("state(1)", x.state(1), due[n][1]);
                x.step(0);
            }
            TwinJudge deep = Check.both(late(0), late(1));
            Check.due("depth(0, 0)", deep.depth(0, 0), 0);
            Check.due("depth(63, 63)", deep.depth(63, 63), 63);
            Check.due("depth(0, 1)", deep.depth(0, 1), 64);
            Check.due("depth(0, 63)", deep.depth(0, 63), 4032);
            for (TwinJudge y : unlike()) {
                Check.throwing("depth(0, 0)", () -> y.depth(0, 0), Check.STATE);
            }
        });
        sentence.holds("Promise 19", "NONE if it does not come up.", () -> {
            TwinJudge x = Check.both("aag 6 1 2 0 0\n2\n4 2\n6 6\n", "aag 6 1 1 0 0\n2\n4 2\n");
            int[] due = {0, -1, -1, 1, -1, -1, -1, -1};
            for (int pair = 0; pair < 8; pair++) {
                int s = pair / 2;
                int t = pair % 2;
                Check.due("depth(" + s + ", " + t + ")", x.depth(s, t), due[pair]);
            }
            TwinJudge deep = Check.both(late(0), late(1));
            Check.due("depth(1, 0): nothing goes back to 0", deep.depth(1, 0), -1);
            Check.due("depth(63, 0)", deep.depth(63, 0), -1);
        });
        sentence.holds("Promise 19", "IllegalArgumentException: one has bits beyond the circuit's latches.", () -> {
            String[] latches = {"", "2 0\n", "4 0\n", "6 0\n", "8 0\n", "10 0\n", "12 0\n"};
            String lines = "";
            for (int n = 0; n <= 6; n++) {
                lines += latches[n];
                TwinJudge first = Check.both("aag 6 0 " + n + " 0 0\n" + lines, NOTHING);
                TwinJudge second = Check.both(NOTHING, "aag 6 0 " + n + " 0 0\n" + lines);
                int beyond = 1 << n;
                Check.due("depth(" + (beyond - 1) + ", 0)", first.depth(beyond - 1, 0), n == 0 ? 0 : -1);
                Check.due("depth(0, " + (beyond - 1) + ")", second.depth(0, beyond - 1), n == 0 ? 0 : -1);
                Check.throwing("depth(" + beyond + ", 0)", () -> first.depth(beyond, 0), Check.ARGUMENT);
                Check.throwing("depth(0, " + beyond + ")", () -> second.depth(0, beyond), Check.ARGUMENT);
                Check.throwing("depth(0, 1) without latches", () -> first.depth(0, 1), Check.ARGUMENT);
                Check.throwing("depth(1, 0) without latches", () -> second.depth(1, 0), Check.ARGUMENT);
                for (int far : FAR) {
                    Check.throwing("depth(" + far + ", 0)", () -> first.depth(far, 0), Check.ARGUMENT);
                    Check.throwing("depth(0, " + far + ")", () -> second.depth(0, far), Check.ARGUMENT);
                    Check.throwing("depth(" + far + ", " + far + ")", () -> first.depth(far, far), Check.ARGUMENT);
                }
            }
        });
    }

    /** No such literal, or one of a variable that is defined nowhere, in GAPS. */
    private static final int[] NO_LITERALS = {-1, -2, 4, 5, 8, 9, 14, 15, 400, 401, 402, 1002};

    private void same() {
        sentence.holds("Promise 20", "Whether a literal of circuit c and one of circuit d are the same at each pair that comes up, by each "
            + "vector.", () -> {
            TwinJudge x = Check.both(GAPS, "aag 4 2 2 0 0\n8\n6\n2 9\n4 4\n");
            boolean[][] due = {{true, false}, {false, true}};
            for (int c = 0; c < 2; c++) {
                for (int d = 0; d < 2; d++) {
                    for (int n = 0; n < 4; n++) {
                        Check.due("same(" + c + ", " + n % 2 + ", " + d + ", " + n / 2 + ")",
                            x.same(c, n % 2, d, n / 2), due[n % 2][n / 2]);
                    }
                }
            }
            Check.due("same(0, 2, 1, 8): inputs", x.same(0, 2, 1, 8), true);
            Check.due("same(0, 10, 1, 6)", x.same(0, 10, 1, 6), true);
            Check.due("same(0, 2, 1, 9)", x.same(0, 2, 1, 9), false);
            Check.due("same(0, 2, 1, 6)", x.same(0, 2, 1, 6), false);
            // At RESET alone latch 1 is not the other's negation.
            Check.due("same(0, 6, 1, 3)", x.same(0, 6, 1, 3), false);
            Check.due("same(1, 4, 0, 0): it holds its 0", x.same(1, 4, 0, 0), true);
            Check.due("same(0, 12, 0, 12): itself", x.same(0, 12, 0, 12), true);
            Check.due("same(0, 12, 0, 13)", x.same(0, 12, 0, 13), false);
            Check.due("same(0, 12, 1, 0)", x.same(0, 12, 1, 0), false);
            x.step(3);
            Check.due("same(1, 3, 0, 6): from RESET on", x.same(1, 3, 0, 6), false);
            // At the last of 64 pairs alone, by the last vector alone.
            Builder b = new Builder();
            int[] inputs = {b.input(), b.input(), b.input(), b.input(), b.input()};
            int[] count = b.latches(6);
            b.next(b.more(count, b.equal(inputs, 31)));
            int last = b.and(b.equal(count, 63), b.equal(inputs, 31));
            TwinJudge y = Check.both(b.plan(), b.plan());
            Check.due("same(0, last, 1, 0)", y.same(0, last, 1, 0), false);
            Check.due("same(0, last, 1, last)", y.same(0, last, 1, last), true);
            for (TwinJudge z : unlike()) {
                Check.throwing("same(0, 0, 0, 0)", () -> z.same(0, 0, 0, 0) ? 1 : 0, Check.STATE);
                Check.throwing("same(1, 0, 1, 0)", () -> z.same(1, 0, 1, 0) ? 1 : 0, Check.STATE);
            }
        });
        sentence.holds("Promise 20", "IllegalArgumentException: there is no such circuit or literal, or its variable is defined nowhere.",
            () -> {
            TwinJudge x = Check.both(GAPS, "aag 200 2 0 0 0\n400\n2\n");
            Check.due("same(0, 13, 1, 401)", x.same(0, 13, 1, 401), false);
            Check.due("same(1, 401, 0, 3)", x.same(1, 401, 0, 3), true);
            for (int c : new int[] {-1, 2, 3}) {
                Check.throwing("same(" + c + ", 0, 1, 0)", () -> x.same(c, 0, 1, 0) ? 1 : 0, Check.ARGUMENT);
                Check.throwing("same(1, 0, " + c + ", 0)", () -> x.same(1, 0, c, 0) ? 1 : 0, Check.ARGUMENT);
            }
            for (int literal : NO_LITERALS) {
                Check.throwing("same(0, " + literal + ", 1, 0)", () -> x.same(0, literal, 1, 0) ? 1 : 0, Check.ARGUMENT);
                Check.throwing("same(1, 0, 0, " + literal + ")", () -> x.same(1, 0, 0, literal) ? 1 : 0, Check.ARGUMENT);
                Check.throwing("same(0, " + literal + ", 0, " + literal + ")",
                    () -> x.same(0, literal, 0, literal) ? 1 : 0, Check.ARGUMENT);
            }
            for (int literal : new int[] {4, 398, 399, 402, 403}) {
                Check.throwing("same(1, " + literal + ", 0, 0)", () -> x.same(1, literal, 0, 0) ? 1 : 0, Check.ARGUMENT);
                Check.throwing("same(0, 0, 1, " + literal + ")", () -> x.same(0, 0, 1, literal) ? 1 : 0, Check.ARGUMENT);
            }
            for (int far : FAR) {
                Check.throwing("same(" + far + ", 0, 1, 0)", () -> x.same(far, 0, 1, 0) ? 1 : 0, Check.ARGUMENT);
                Check.throwing("same(0, 0, " + far + ", 0)", () -> x.same(0, 0, far, 0) ? 1 : 0, Check.ARGUMENT);
                Check.throwing("same(0, " + far + ", 1, 0)", () -> x.same(0, far, 1, 0) ? 1 : 0, Check.ARGUMENT);
                Check.throwing("same(0, 0, 1, " + far + ")", () -> x.same(0, 0, 1, far) ? 1 : 0, Check.ARGUMENT);
            }
        });
    }

    private static void dueTwins(TwinJudge x, int c, int[][] twins) {
        for (int[] twin : twins) {
            Check.due("twin(" + c + ", " + twin[0] + ")", x.twin(c, twin[0]), twin[1]);
        }
    }

    private void twin() {
        sentence.holds("Promise 21", "The first literal that is the same as a literal of circuit c in that way: 0, 1,", () -> {
            // Latch 4 holds its 0; 6 is nothing, 8 all.
            TwinJudge x = Check.both("aag 4 1 1 0 2\n2\n4 4\n6 2 3\n8 5 5\n", "aag 4 1 1 0 2\n2\n4 4\n6 2 3\n8 5 5\n");
            for (int c = 0; c < 2; c++) {
                dueTwins(x, c, new int[][] {{0, 0}, {1, 1}, {2, 2}, {3, 3}, {4, 0}, {5, 1}, {6, 0}, {7, 1}, {8, 1}, {9, 0}});
            }
            TwinJudge y = Check.both(NOTHING, NOTHING);
            for (int c = 0; c < 2; c++) {
                dueTwins(y, c, new int[][] {{0, 0}, {1, 1}});
            }
            for (TwinJudge z : unlike()) {
                Check.throwing("twin(0, 0)", () -> z.twin(0, 0), Check.STATE);
                Check.throwing("twin(1, 0)", () -> z.twin(1, 0), Check.STATE);
            }
        });
        sentence.holds("Promise 21", "then those of circuit 0 from 2 on by number,", () -> {
            // Input 8, latch 6 that takes it; 2 is the input's negation, 4 is latch 6; 10 is neither.
            TwinJudge x = Check.both("aag 6 1 2 0 3\n8\n6 8\n12 9\n2 9 9\n4 6 6\n10 9 6\n", "aag 2 1 1 0 0\n4\n2 4\n");
            dueTwins(x, 0, new int[][] {{2, 2}, {3, 3}, {8, 3}, {9, 2}, {4, 4}, {6, 4}, {7, 5}, {10, 10}, {11, 11}, {12, 12}});
            dueTwins(x, 1, new int[][] {{4, 3}, {5, 2}, {2, 4}, {3, 5}});
            // The last ones that there can be.
            TwinJudge y = Check.both("aag 200 2 0 0 0\n400\n398\n", "aag 200 2 0 0 0\n2\n400\n");
            dueTwins(y, 1, new int[][] {{2, 400}, {3, 401}, {400, 398}, {401, 399}});
            dueTwins(y, 0, new int[][] {{400, 400}, {401, 401}, {398, 398}});
        });
        sentence.holds("Promise 21", "The first literal that is the same as a literal of circuit c in that way:", () -> {
            // The latches become 1 one behind the other: at RESET they are all as 0, in the end as 1. Circuit 0 has
            // ten ands, none of which is like anything from RESET on.
            Builder b = new Builder();
            int[] inputs = {b.input(), b.input(), b.input(), b.input(), b.input()};
            for (int k = 0; k < 5; k++) {
                for (int j = 0; j < k; j++) {
                    b.and(inputs[j], inputs[k]);
                }
            }
            TwinJudge x = new TwinJudge();
            Check.load(x, 0, b.plan().file());
            Check.load(x, 1, "aag 11 5 6 0 0\n2\n4\n6\n8\n10\n12 1\n14 12\n16 14\n18 16\n20 18\n22 20\n");
            for (int literal = 2; literal <= 23; literal++) {
                Check.due("twin(1, " + literal + ")", x.twin(1, literal), literal < 12 ? literal : 1000 + literal);
            }
            Check.due("doubts()", x.doubts(), 0);
            // Of as many signals as there can be, and once more.
            StringBuilder most = new StringBuilder("aig 161 5 6 0 150\n1\n12\n14\n16\n18\n20\n");
            for (int v = 12; v <= 161; v++) {
                most.append('\1').append((char) (2 * (v % 5)));
            }
            TwinJudge full = Check.both(most.toString(), most.toString());
            for (int n = 0; n < 2; n++) {
                for (int literal = 2; literal <= 323; literal += 7 + n) {
                    int twin = full.twin(1, literal);
                    Check.due("twin(0, " + literal + ")", full.twin(0, literal), twin);
                    Check.due("twin(1, " + literal + ") is not behind it", twin <= literal, true);
                }
                Check.due("twin(1, 22)", full.twin(1, 22), 22);
                Check.load(full, 1, most.toString());
            }
            Check.due("doubts()", full.doubts(), 0);
        });
        sentence.holds("Promise 21", "then 1000 more than those of circuit 1 from 2 on (of variables that are defined).", () -> {
            TwinJudge x = Check.both("aag 1 1 0 0 0\n2\n", "aag 200 1 2 0 2\n398\n400 399\n396 399\n394 401 401\n8 398 400\n");
            dueTwins(x, 1, new int[][] {{398, 2}, {399, 3}, {400, 1395}, {401, 1394}, {396, 1395}, {397, 1394}, {394, 1394},
                {395, 1395}, {8, 1008}, {9, 1009}, {0, 0}, {1, 1}});
            TwinJudge y = Check.both(NOTHING, "aag 200 0 2 0 0\n400 401\n2 1\n");
            dueTwins(y, 1, new int[][] {{400, 1400}, {401, 1401}, {2, 1002}, {3, 1003}});
            Check.due("doubts()", y.doubts(), 0);
            // Behind a load it is another question.
            Check.load(y, 0, "aag 200 0 1 0 0\n400 401\n");
            dueTwins(y, 1, new int[][] {{400, 400}, {401, 401}, {2, 1002}});
        });
        sentence.holds("Promise 21", "IllegalArgumentException likewise.", () -> {
            TwinJudge x = Check.both(GAPS, "aag 200 2 0 0 0\n400\n2\n");
            for (int c : new int[] {-1, 2, 3}) {
                Check.throwing("twin(" + c + ", 0)", () -> x.twin(c, 0), Check.ARGUMENT);
            }
            for (int literal : NO_LITERALS) {
                Check.throwing("twin(0, " + literal + ")", () -> x.twin(0, literal), Check.ARGUMENT);
            }
            for (int literal : new int[] {-1, 4, 5, 398, 399, 402, 403, 1000, 1400}) {
                Check.throwing("twin(1, " + literal + ")", () -> x.twin(1, literal), Check.ARGUMENT);
            }
            for (int far : FAR) {
                Check.throwing("twin(" + far + ", 0)", () -> x.twin(far, 0), Check.ARGUMENT);
                Check.throwing("twin(0, " + far + ")", () -> x.twin(0, far), Check.ARGUMENT);
                Check.throwing("twin(1, " + far + ")", () -> x.twin(1, far), Check.ARGUMENT);
            }
            Check.due("twin(1, 401)", x.twin(1, 401), 3);
            Check.due("twin(0, 13)", x.twin(0, 13), 13);
        });
    }

    private static void askAll(TwinJudge x) {
        Check.due("doubts()", x.doubts(), 0);
        x.judge();
        x.blame();
        x.witness(0);
        x.gates();
        for (int n = 1; n <= 16; n++) {
            x.differs(n);
        }
        for (int k = 8; k >= 0; k--) {
            x.inductive(k);
        }
        for (int literal = 0; literal < 4; literal++) {
            x.twin(0, literal);
            x.twin(1, literal);
            x.same(0, literal, 1, 3);
        }
        Check.due("doubts()", x.doubts(), 0);
    }

    private void doubts() {
        sentence.holds("Promise 22", "How often the works has found itself wrong since the constructor (a lesson that does not follow from what "
            + "is known, a witness that does not tell when it is played again, two ways to one answer that differ): 0 always, if it is right.",
            () -> {
            TwinJudge x = new TwinJudge();
            Check.due("doubts() of a new object", x.doubts(), 0);
            Check.load(x, 0, "aag");
            Check.throwing("judge()", x::judge, Check.STATE);
            Check.throwing("twin(5, 5)", () -> x.twin(5, 5), Check.STATE);
            Check.due("doubts() behind calls that were refused", x.doubts(), 0);
            String[][] files = {{DELAY, ZERO}, {DELAY, DELAY}, {WIRE, DELAY}, {WIRE, ZERO}};
            for (String[] pair : files) {
                Check.load(x, 0, pair[0]);
                Check.load(x, 1, pair[1]);
                x.step(1);
                askAll(x);
            }
            askAll(Check.both(late(0), late(1)));
            askAll(Check.both(late(0), late(0)));
        });
    }
}
