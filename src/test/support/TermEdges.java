import java.util.function.IntSupplier;

/** The sentences of "What it is", and those of "Terms" on circuits, pairs, vectors and what is asked of them. */
final class TermEdges {
    private static final String TERMS = "Terms";
    private static final String NOTHING = "aag 0 0 0 0 0\n";
    private static final String ZERO = "aag 1 1 0 1 0\n2\n0\n";
    private static final String WIRE = "aag 1 1 0 1 0\n2\n2\n";
    private static final String DELAY = "aag 2 1 1 1 0\n2\n4 2\n4\n";

    private final Sentence sentence;
    private int calls;

    TermEdges(Sentence sentence) {
        this.sentence = sentence;
    }

    void all() {
        whatItIs();
        circuits();
        pairs();
        telling();
        witness();
        gates();
        inductive();
        exceptions();
    }

    private void due(String what, IntSupplier call, int want) {
        calls++;
        Check.due("call " + calls + ", " + what, call.getAsInt(), want);
    }

    private void loadCounted(TwinJudge x, int c, String file, int ands) {
        byte[] bytes = Check.bytes(file);
        // One feed() and one end() for each twenty bytes that are not all zeros.
        calls += 2 * ((bytes.length + 19) / 20);
        Check.put(x, bytes);
        due("load(" + c + ")", () -> x.load(c), ands);
    }

    private void whatItIs() {
        sentence.holds("What it is", "Two clocked circuits, read from files of either form, and whether any inputs ever tell them "
            + "apart: the first way to do so, or that there is none; what pairs of states come up, and which of their signals "
            + "are always the same.", () -> {
            TwinJudge x = Check.both(FileEdges.TEXT, FileEdges.BINARY);
            Check.due("judge()", x.judge(), 0);
            Check.due("pairs(0)", x.pairs(0), 2);
            Check.due("twin(1, 6)", x.twin(1, 6), 6);
            Check.load(x, 1, "aig 3 1 1 1 1\n6\n4\n\1\3");
            Check.due("judge()", x.judge(), 1);
            Check.due("witness(0)", x.witness(0), 0);
        });
        sentence.holds("What it is", "An object is used for at most 512 calls after it has been made; what later calls answer is "
            + "free.", () -> {
            TwinJudge x = new TwinJudge();
            calls = 0;
            loadCounted(x, 0, DELAY, 0);
            while (calls + 21 <= 512) {
                boolean alike = calls % 2 == 0;
                loadCounted(x, 1, alike ? DELAY : WIRE, 0);
                due("judge()", x::judge, alike ? 0 : 1);
                due("witness(0)", () -> x.witness(0), alike ? -1 : 1);
                due("gates()", x::gates, 0);
                due("twin(0, 4)", () -> x.twin(0, 4), 4);
                due("twin(1, 2)", () -> x.twin(1, 2), 2);
                due("inductive(8)", () -> x.inductive(8) ? 1 : 0, alike ? 1 : 0);
                due("pairs(0)", () -> x.pairs(0), 2);
                due("doubts()", x::doubts, 0);
            }
            Check.load(x, 1, DELAY);
            calls += 5;
            while (calls < 510) {
                due("step(0)", () -> x.step(0), 0);
            }
            due("step(1)", () -> x.step(1), 0);
            due("step(0)", () -> x.step(0), 257);
            Check.due("calls", calls, 512);
        });
    }

    private void circuits() {
        sentence.holds(TERMS, "A CIRCUIT has variables 1 .. M, some of which are INPUTS, LATCHES, ANDS (each one of these at most).",
            () -> {
            // None at all, none of which are any, all of which are one.
            Check.fine(NOTHING);
            TwinJudge none = Check.one("aag 200 0 0 0 0\n");
            for (int literal = 2; literal <= 401; literal++) {
                Check.due("value(0, " + literal + ", 0)", none.value(0, literal, 0), -1);
            }
            Check.fine("aag 3 1 1 0 1\n6\n2 0\n4 0 0\n");
            Check.fault(4, "aag 3 1 1 0 1\n6\n^6 0\n4 0 0\n");
            Check.fault(4, "aag 3 1 1 0 1\n6\n2 0\n^6 0 0\n");
            Check.fault(4, "aag 3 1 1 0 1\n6\n2 0\n^2 0 0\n");
        });
        sentence.holds(TERMS, "A LITERAL is 0 or 1, the constants, or 2 * v, a variable, or 2 * v + 1, its negation.", () -> {
            TwinJudge x = Check.one("aag 200 2 0 0 0\n2\n400\n");
            int[][] due = {{0, 0, 0}, {1, 1, 1}, {2, 0, 1}, {3, 1, 0}, {400, 0, 1}, {401, 1, 0}, {-1, -1, -1}, {402, -1, -1}};
            for (int[] row : due) {
                Check.due("value(0, " + row[0] + ", 0)", x.value(0, row[0], 0), row[1]);
                Check.due("value(0, " + row[0] + ", 3)", x.value(0, row[0], 3), row[2]);
            }
        });
        sentence.holds(TERMS, "A latch has a NEXT literal, an and two operands; an OUTPUT is a literal.", () -> {
            // Each of them any literal: a constant, itself where that is no loop, the same one twice, a negation.
            TwinJudge x = Check.one("aag 9 1 5 6 3\n2\n4 0\n6 1\n8 9\n10 10\n12 3\n0\n1\n3\n12\n15\n18\n14 1 1\n16 3 3\n18 16 5\n");
            Check.due("step(0)", x.step(0), 2 + 4 + 32);
            Check.due("state(0)", x.state(0), 2 + 4 + 16);
            Check.due("step(1)", x.step(1), 2 + 8);
            Check.due("state(0)", x.state(0), 2);
        });
        sentence.holds(TERMS, "A circuit WORKS: from the values of its latches and inputs all literals follow.", () -> {
            // 150 ands, each ahead of its operand in the file: 150 is the input and the latch, each other the next one.
            StringBuilder file = new StringBuilder("aag 152 1 1 0 150\n304\n302 304\n");
            for (int v = 1; v <= 150; v++) {
                file.append(2 * v).append(' ').append(v == 150 ? 302 : 2 * v + 3).append(' ').append(v == 150 ? 304 : 1).append('\n');
            }
            TwinJudge x = Check.one(file.toString());
            for (int latch = 0; latch < 2; latch++) {
                for (int vector = 0; vector < 2; vector++) {
                    int last = latch & vector;
                    Check.due("value(0, 300, " + vector + ")", x.value(0, 300, vector), last);
                    Check.due("value(0, 298, " + vector + ")", x.value(0, 298, vector), 1 - last);
                    Check.due("value(0, 4, " + vector + ")", x.value(0, 4, vector), last);
                    Check.due("value(0, 2, " + vector + ")", x.value(0, 2, vector), 1 - last);
                    Check.due("value(0, 3, " + vector + ")", x.value(0, 3, vector), last);
                }
                x.step(1);
            }
        });
        sentence.holds(TERMS, "There are two circuits, 0 and 1 (at first none).", () -> {
            TwinJudge x = new TwinJudge();
            for (int c = -1; c <= 2; c++) {
                Check.due("many(" + c + ", 0)", x.many(c, 0), -1);
            }
            for (int c = -1; c <= 2; c++) {
                Check.due("load(" + c + ")", Check.load(x, c, c == 0 ? WIRE : DELAY), c == 0 || c == 1 ? 0 : -1);
            }
            Check.due("many(-1, 0)", x.many(-1, 0), -1);
            Check.due("many(0, 0)", x.many(0, 0), 1);
            Check.due("many(1, 0)", x.many(1, 0), 2);
            Check.due("many(2, 0)", x.many(2, 0), -1);
        });
    }

    /** Six latches that shift an input of two. */
    private static String shift(String inputs) {
        return "aag 8 2 6 0 0\n" + inputs + "14 2\n4 14\n6 4\n8 6\n10 8\n12 10\n";
    }

    private void pairs() {
        sentence.holds(TERMS, "A PAIR: values of all latches of both.", () -> {
            Check.due("pairs(0) without latches", Check.both(NOTHING, NOTHING).pairs(0), 1);
            Check.due("pairs(0) with one", Check.both("aag 1 0 1 0 0\n2 3\n", NOTHING).pairs(0), 2);
            Check.due("pairs(0) with one", Check.both(NOTHING, "aag 1 0 1 0 0\n2 3\n").pairs(0), 2);
            Check.due("pairs(0) with twelve", Check.both(shift("2\n16\n"), shift("16\n2\n")).pairs(0), 4096);
        });
        sentence.holds(TERMS, "A VECTOR: values of the inputs, input k as bit k of a number, the same for both circuits.", () -> {
            String first = "aag 5 5 0 1 0\n2\n4\n6\n8\n10\n";
            String second = "aag 5 5 0 1 0\n10\n8\n6\n4\n2\n";
            for (int k = 0; k < 5; k++) {
                TwinJudge x = Check.both(first + (2 * k + 2) + "\n", first + "0\n");
                Check.due("witness(0) by input " + k, x.witness(0), 1 << k);
                // It is input k that is the same, not variable k.
                Check.load(x, 1, second + (10 - 2 * k) + "\n");
                Check.due("judge() of input " + k, x.judge(), 0);
                Check.due("value(0, ..)", x.value(0, 2 * k + 2, 1 << k), 1);
                Check.due("value(1, ..)", x.value(1, 10 - 2 * k, 1 << k), 1);
            }
            Check.due("witness(0) without inputs", Check.both("aag 0 0 0 1 0\n1\n", "aag 0 0 0 1 0\n0\n").witness(0), 0);
        });
        sentence.holds(TERMS, "From a pair, by a vector, each latch's next gives the NEXT pair.", () -> {
            // Latch 0 takes latch 1, latch 1 the input: all at once, in both circuits.
            TwinJudge x = Check.both("aag 3 1 2 0 0\n6\n2 4\n4 6\n", "aag 2 1 1 0 0\n4\n2 5\n");
            Check.due("depth(0, 1)", x.depth(0, 1), 1);
            Check.due("depth(2, 0)", x.depth(2, 0), 1);
            Check.due("depth(1, 1)", x.depth(1, 1), 2);
            Check.due("depth(3, 0)", x.depth(3, 0), 2);
            Check.due("depth(3, 1): the same vector moves both", x.depth(3, 1), -1);
            Check.due("depth(2, 1)", x.depth(2, 1), -1);
        });
        sentence.holds(TERMS, "RESET is the pair of zeros.", () -> {
            TwinJudge x = Check.both("aag 1 0 1 1 0\n2 1\n2\n", "aag 1 0 1 1 0\n2 1\n3\n");
            Check.due("depth(0, 0)", x.depth(0, 0), 0);
            Check.due("depth(1, 1)", x.depth(1, 1), 1);
            x.step(0);
            Check.due("state(0)", x.state(0), 1);
            Check.due("depth(0, 0), the latches being 1", x.depth(0, 0), 0);
            Check.load(x, 0, "aag 1 0 1 1 0\n2 1\n3\n");
            x.step(0);
            Check.due("pairs(0), the latches being 1", x.pairs(0), 2);
            Check.due("judge()", x.judge(), 0);
        });
        sentence.holds(TERMS, "Pairs that COME UP: RESET, and the next ones, by any vector, of those that come up;", () -> {
            // RESET does, though nothing leads back to it; by the last vector of five inputs alone another one does.
            Builder b = new Builder();
            int[] inputs = {b.input(), b.input(), b.input(), b.input(), b.input()};
            int latch = b.latch();
            b.next(b.or(latch, b.equal(inputs, 31)));
            TwinJudge x = new TwinJudge();
            Check.load(x, 0, b.plan().file());
            Check.load(x, 1, "aag 5 5 0 0 0\n2\n4\n6\n8\n10\n");
            Check.due("pairs(0)", x.pairs(0), 2);
            Check.due("depth(0, 0)", x.depth(0, 0), 0);
            Check.due("depth(1, 0)", x.depth(1, 0), 1);
            // Without inputs there is one vector all the same.
            TwinJudge y = Check.both("aag 1 0 1 0 0\n2 1\n", NOTHING);
            Check.due("pairs(0)", y.pairs(0), 2);
            // A latch that holds its 0 stays.
            TwinJudge z = Check.both("aag 2 1 1 0 0\n2\n4 4\n", "aag 2 1 1 0 0\n2\n4 2\n");
            Check.due("pairs(0)", z.pairs(0), 2);
            Check.due("depth(1, 0)", z.depth(1, 0), -1);
            Check.due("depth(1, 1)", z.depth(1, 1), -1);
        });
        sentence.holds(TERMS, "a pair's DEPTH is the least number of such steps to it.", () -> {
            // A counter that vector 1 moves by one, and vector 2 takes to 7 at once.
            Builder b = new Builder();
            int one = b.input();
            int jump = b.input();
            int[] count = b.latches(3);
            int[] sum = b.more(count, one);
            b.next(b.or(sum[0], jump), b.or(sum[1], jump), b.or(sum[2], jump));
            TwinJudge x = new TwinJudge();
            Check.load(x, 0, b.plan().file());
            Check.load(x, 1, "aag 2 2 0 0 0\n2\n4\n");
            int[] due = {0, 1, 2, 3, 4, 5, 6, 1};
            for (int s = 0; s < 8; s++) {
                Check.due("depth(" + s + ", 0)", x.depth(s, 0), due[s]);
            }
        });
    }

    private void telling() {
        sentence.holds(TERMS, "A pair and a vector TELL if an output of one circuit is not as the output with the same number of "
            + "the other one.", () -> {
            String zeros = "aag 1 1 0 8 0\n2\n" + "0\n".repeat(8);
            for (int k = 0; k < 8; k++) {
                TwinJudge x = Check.both(zeros, "aag 1 1 0 8 0\n2\n" + "0\n".repeat(k) + "2\n" + "0\n".repeat(7 - k));
                Check.due("judge() by output " + k, x.judge(), 1);
                Check.due("blame()", x.blame(), k);
            }
            // The same outputs with other numbers tell; none cannot.
            Check.due("judge()", Check.both("aag 1 1 0 2 0\n2\n2\n3\n", "aag 1 1 0 2 0\n2\n3\n2\n").judge(), 1);
            Check.due("judge() without outputs", Check.both("aag 1 0 1 0 0\n2 3\n", NOTHING).judge(), 0);
            // Outputs of an earlier file do not count.
            TwinJudge fewer = Check.both(zeros, zeros.replace("0\n0\n0\n0\n0\n0\n0\n0\n", "0\n0\n0\n0\n0\n0\n0\n1\n"));
            Check.due("judge() by output 7", fewer.judge(), 1);
            Check.load(fewer, 0, "aag 1 1 0 7 0\n2\n" + "0\n".repeat(7));
            Check.load(fewer, 1, "aag 1 1 0 7 0\n2\n" + "0\n".repeat(7));
            Check.due("judge() without it", fewer.judge(), 0);
            Check.due("inductive(0) without it", fewer.inductive(0), true);
            Check.due("inductive(0) without outputs", Check.both("aag 1 0 1 0 0\n2 3\n", NOTHING).inductive(0), true);
        });
        sentence.holds(TERMS, "The circuits MATCH if there are both, and they have as many inputs, and as many outputs.", () -> {
            TwinJudge x = new TwinJudge();
            Check.throwing("judge() with none", x::judge, Check.STATE);
            Check.load(x, 0, NOTHING);
            Check.throwing("judge() with circuit 0 alone", x::judge, Check.STATE);
            TwinJudge y = new TwinJudge();
            Check.load(y, 1, NOTHING);
            Check.throwing("judge() with circuit 1 alone", y::judge, Check.STATE);
            TwinJudge inputs = Check.both("aag 5 5 0 1 0\n2\n4\n6\n8\n10\n0\n", "aag 5 4 0 1 0\n2\n4\n6\n8\n0\n");
            Check.throwing("judge() with 5 and 4 inputs", inputs::judge, Check.STATE);
            TwinJudge outputs = Check.both("aag 0 0 0 8 0\n" + "0\n".repeat(8), "aag 0 0 0 7 0\n" + "0\n".repeat(7));
            Check.throwing("judge() with 8 and 7 outputs", outputs::judge, Check.STATE);
            TwinJudge none = Check.both("aag 1 1 0 0 0\n2\n", NOTHING);
            Check.throwing("judge() with 1 and 0 inputs", none::judge, Check.STATE);
            TwinJudge mute = Check.both("aag 0 0 0 1 0\n0\n", NOTHING);
            Check.throwing("judge() with 1 and 0 outputs", mute::judge, Check.STATE);
            // Variables, latches and ands may be as they like.
            TwinJudge z = Check.both("aag 200 1 6 1 1\n2\n4 0\n6 0\n8 0\n10 0\n12 0\n14 0\n16\n16 2 2\n", WIRE);
            Check.due("judge()", z.judge(), 0);
            Check.due("judge() of two empty ones", Check.both(NOTHING, "aig 0 0 0 0 0\n").judge(), 0);
        });
        sentence.holds(TERMS, "They are EQUIVALENT if no pair that comes up tells, by any vector.", () -> {
            // The latch would tell if it were 1, but it holds its 0.
            Check.due("judge()", Check.both("aag 2 1 1 1 0\n2\n4 4\n4\n", ZERO).judge(), 0);
            // By the last vector alone, at the last pair alone.
            Builder b = new Builder();
            int[] inputs = {b.input(), b.input(), b.input(), b.input(), b.input()};
            int[] count = b.latches(6);
            b.next(b.more(count, b.equal(inputs, 31)));
            b.output(b.and(b.equal(count, 63), b.equal(inputs, 31)));
            TwinJudge x = new TwinJudge();
            Check.load(x, 0, b.plan().file());
            Check.load(x, 1, "aag 5 5 0 1 0\n2\n4\n6\n8\n10\n0\n");
            Check.due("judge()", x.judge(), 64);
            for (int k = 0; k < 64; k++) {
                Check.due("witness(" + k + ")", x.witness(k), 31);
            }
        });
    }

    /** Two inputs; the next state and the output by two latches and the vector: a row for each state. */
    private static byte[] machine(int[][] nexts, int[][] outputs) {
        Builder b = new Builder();
        int[] inputs = {b.input(), b.input()};
        int[] state = b.latches(2);
        int low = 0;
        int high = 0;
        int told = 0;
        for (int s = 0; s < nexts.length; s++) {
            for (int x = 0; x < 4; x++) {
                int here = b.and(b.equal(state, s), b.equal(inputs, x));
                low = (nexts[s][x] & 1) == 1 ? b.or(low, here) : low;
                high = (nexts[s][x] & 2) == 2 ? b.or(high, here) : high;
                told = outputs[s][x] == 1 ? b.or(told, here) : told;
            }
        }
        b.next(low, high);
        b.output(told);
        return b.plan().file();
    }

    private static void dueWitness(int[][] nexts, int[][] outputs, int... want) {
        for (int c = 0; c < 2; c++) {
            TwinJudge x = new TwinJudge();
            Check.load(x, c, machine(nexts, outputs));
            Check.load(x, 1 - c, "aag 2 2 0 1 0\n2\n4\n0\n");
            Check.due("judge()", x.judge(), want.length);
            for (int k = 0; k < want.length; k++) {
                Check.due("witness(" + k + ")", x.witness(k), want[k]);
            }
            Check.due("witness(" + want.length + ")", x.witness(want.length), -1);
        }
    }

    private void witness() {
        sentence.holds(TERMS, "Else the LENGTH is the least n for which there are n vectors so that, from RESET on by these, the "
            + "last one tells;", () -> {
            Check.due("judge(): at once", Check.both(WIRE, ZERO).judge(), 1);
            Check.due("judge(): behind a step", Check.both(DELAY, ZERO).judge(), 2);
            // A long way by 1, and a short one by 3, which comes later among the numbers.
            dueWitness(new int[][] {{0, 1, 0, 3}, {1, 2, 1, 1}, {2, 3, 2, 2}, {3, 3, 3, 3}},
                new int[][] {{0, 0, 0, 0}, {0, 0, 0, 0}, {0, 0, 0, 0}, {1, 1, 1, 1}}, 3, 0);
            // From RESET on, not from the latches as they are.
            TwinJudge x = Check.both(DELAY, ZERO);
            x.step(1);
            Check.due("judge(), the latch being 1", x.judge(), 2);
        });
        sentence.holds(TERMS, "the WITNESS is the first of such rows of vectors (the first vectors are compared as numbers, then the "
            + "second ones, ..).", () -> {
            // All vectors tell: the first one is 0.
            dueWitness(new int[][] {{0, 0, 0, 0}}, new int[][] {{1, 1, 1, 1}}, 0);
            dueWitness(new int[][] {{0, 0, 0, 0}}, new int[][] {{0, 0, 1, 1}}, 2);
            // 1 3 is ahead of 2 0, though 2 leads to a lower state and 0 is a lower vector.
            dueWitness(new int[][] {{0, 3, 1, 1}, {1, 1, 1, 1}, {2, 2, 2, 2}, {3, 3, 3, 3}},
                new int[][] {{0, 0, 0, 0}, {1, 1, 1, 1}, {0, 0, 0, 0}, {0, 0, 0, 1}}, 1, 3);
            // The first vectors count more than the second ones: 0 3 1 is ahead of 1 0 0 and of 0 3 2.
            dueWitness(new int[][] {{1, 2, 2, 2}, {1, 1, 1, 3}, {3, 3, 3, 3}, {3, 3, 3, 3}},
                new int[][] {{0, 0, 0, 0}, {0, 0, 0, 0}, {0, 0, 0, 0}, {0, 1, 1, 0}}, 0, 3, 1);
            // To one pair by 2 and by 3: the lower vector counts.
            dueWitness(new int[][] {{0, 0, 1, 1}, {1, 1, 1, 1}}, new int[][] {{0, 0, 0, 0}, {0, 1, 1, 1}}, 2, 1);
            // As numbers: of 5 inputs, 2 and 9 are ahead of 10 and 16.
            String five = "aag 5 5 0 1 0\n2\n4\n6\n8\n10\n";
            Builder b = new Builder();
            int[] inputs = {b.input(), b.input(), b.input(), b.input(), b.input()};
            b.output(b.or(b.equal(inputs, 10), b.or(b.equal(inputs, 9), b.equal(inputs, 16))));
            TwinJudge x = new TwinJudge();
            Check.load(x, 0, b.plan().file());
            Check.load(x, 1, five + "0\n");
            Check.due("witness(0)", x.witness(0), 9);
            Check.load(x, 1, five + "1\n");
            Check.due("witness(0)", x.witness(0), 0);
        });
    }

    /** In circuit 0, then in circuit 1, beside a circuit without ands. */
    private static void dueGates(String ands, int want) {
        int count = ands.length() - ands.replace("\n", "").length();
        String file = "aag 40 2 1 0 " + count + "\n2\n4\n6 0\n" + ands;
        String other = "aag 2 2 0 0 0\n2\n4\n";
        Check.due("gates() of " + ands.replace('\n', ','), Check.both(file, other).gates(), want);
        Check.due("gates() of " + ands.replace('\n', ',') + " as circuit 1", Check.both(other, file).gates(), want);
    }

    /**
     * An and of each two of 5 inputs and 6 latches, and one of each of these and input 0. In
     * two such circuits the 10 of the inputs and the 10 on them are the same, the 45 and 45 others not.
     */
    private static Plan webbed() {
        Builder b = new Builder();
        int[] signals = new int[11];
        for (int k = 0; k < 11; k++) {
            signals[k] = k < 5 ? b.input() : b.latch();
        }
        b.next(0, 0, 0, 0, 0, 0);
        for (int k = 0; k < 11; k++) {
            for (int j = 0; j < k; j++) {
                b.and(signals[0], b.and(signals[j], signals[k]));
            }
        }
        return b.plan();
    }

    private void gates() {
        sentence.holds(TERMS, "GATES: both circuits laid over one another, with the same inputs:", () -> {
            String file = "aag 6 2 1 0 3\n2\n4\n6 0\n8 2 4\n10 2 6\n12 6 7\n";
            // The gate of the inputs is one for both, that of a latch is not; nor is the latch of one that of the other.
            Check.due("gates()", Check.both(file, file).gates(), 3);
            Check.due("gates()", Check.both(file, "aag 6 2 1 0 3\n4\n2\n6 0\n8 2 4\n10 2 6\n12 6 7\n").gates(), 3);
            Check.due("gates()", Check.both("aag 3 2 0 0 1\n2\n4\n6 2 5\n", "aag 3 2 0 0 1\n4\n2\n6 2 5\n").gates(), 2);
            Check.due("gates()", Check.both("aag 3 2 0 0 1\n2\n4\n6 2 5\n", "aag 3 2 0 0 1\n4\n2\n6 4 3\n").gates(), 1);
            Check.due("gates() without ands", Check.both(NOTHING, NOTHING).gates(), 0);
        });
        sentence.holds(TERMS, "each and, circuit 0 first, by ORDER, becomes a signal:", () -> {
            // A gate of circuit 0 serves in circuit 1, where another and hangs on it.
            Check.due("gates()", Check.both("aag 4 2 0 0 2\n2\n4\n6 2 4\n8 6 3\n", "aag 4 2 0 0 2\n2\n4\n8 4 2\n6 3 8\n").gates(), 2);
            dueGates("", 0);
            dueGates("8 2 4\n", 1);
        });
        sentence.holds(TERMS, "0 if an operand is 0, or one is the other's negation;", () -> {
            // 8 becomes 0: then 10 is 2, and 12 and 14 are one gate.
            for (String zero : new String[] {"0 4", "4 0", "0 5", "5 0", "0 0", "0 1", "1 0", "4 5", "5 4", "6 7", "7 6"}) {
                dueGates("8 " + zero + "\n", 0);
                dueGates("8 " + zero + "\n10 9 2\n12 10 4\n14 2 4\n", 1);
                dueGates("8 " + zero + "\n10 8 2\n12 11 4\n14 4 12\n", 0);
            }
            // Of a gate, too.
            dueGates("8 2 4\n10 8 9\n12 11 2\n14 12 4\n", 1);
            dueGates("8 2 4\n10 4 2\n12 10 9\n14 13 2\n16 14 4\n", 1);
        });
        sentence.holds(TERMS, "the other operand, if one is 1 or both are the same;", () -> {
            for (String four : new String[] {"1 4", "4 1", "4 4"}) {
                dueGates("8 " + four + "\n", 0);
                dueGates("8 " + four + "\n10 8 2\n12 4 2\n", 1);
                dueGates("8 " + four + "\n10 9 2\n12 4 2\n", 2);
                dueGates("8 " + four + "\n10 8 5\n12 8 4\n", 0);
            }
            for (String five : new String[] {"1 5", "5 1", "5 5"}) {
                dueGates("8 " + five + "\n10 8 2\n12 5 2\n", 1);
                dueGates("8 " + five + "\n10 9 2\n12 4 2\n", 1);
            }
            dueGates("8 1 1\n10 8 2\n12 10 4\n14 2 4\n", 1);
        });
        sentence.holds(TERMS, "else a gate with these two operands, the same one if there is one already, in whatever order they stand.",
            () -> {
            dueGates("8 2 4\n10 2 4\n", 1);
            dueGates("8 2 4\n10 4 2\n", 1);
            dueGates("8 4 2\n10 2 4\n", 1);
            dueGates("8 2 4\n10 3 4\n12 2 5\n14 3 5\n", 4);
            dueGates("8 2 4\n10 8 6\n12 6 8\n14 10 13\n", 2);
            // A gate for each, though the one follows from the others.
            dueGates("8 2 4\n10 8 2\n12 10 4\n", 3);
            Check.due("gates(): no two signals are taken for one another", Check.both(webbed(), webbed()).gates(), 200);
            StringBuilder most = new StringBuilder("aag 160 2 1 0 150\n2\n4\n6 0\n");
            for (int v = 4; v < 154; v++) {
                most.append(2 * v).append(' ').append(2 * v - 1).append(' ').append(v % 2 == 0 ? 2 : 4).append('\n');
            }
            Check.due("gates(): as many as can be", Check.both(most.toString(), most.toString()).gates(), 300);
        });
        sentence.holds(TERMS, "(ORDER: again and again the first and by the file that has not come yet, and whose operands are constants, "
            + "inputs, latches or ands that have come.)", () -> {
            dueGates("16 14 12\n14 12 10\n12 10 8\n10 8 6\n8 2 4\n", 5);
            dueGates("10 8 6\n12 6 8\n8 2 4\n", 2);
            dueGates("16 14 15\n14 12 1\n12 10 10\n10 4 2\n8 2 4\n", 1);
        });
    }

    private void inductive() {
        sentence.holds(TERMS, "INDUCTIVE for k: there are no pairs p0 .. pk, whether they come up or not, and vectors x0 .. xk, so that "
            + "pj + 1 is the next of pj by xj, and pk with xk tells, but none of those before, pj with xj.", () -> {
            // The latch holds its 1, which does not come up: it tells at once, and cannot wait.
            TwinJudge holds = Check.both("aag 2 1 1 1 0\n2\n4 4\n4\n", ZERO);
            Check.due("judge()", holds.judge(), 0);
            Check.due("inductive(0)", holds.inductive(0), false);
            Check.due("inductive(1)", holds.inductive(1), true);
            // By vector 1 alone: it can wait by vector 0, as a pair that tells by one vector does not by another.
            TwinJudge waits = Check.both("aag 3 1 1 1 1\n2\n4 4\n6\n6 2 4\n", ZERO);
            for (int k = 0; k <= 8; k++) {
                Check.due("inductive(" + k + ")", waits.inductive(k), false);
            }
            // By one vector it tells and holds its 1, by the other one it does not, but loses it: no wait is left.
            for (String operands : new String[] {"4 2", "4 3"}) {
                TwinJudge loses = Check.both("aag 3 1 1 1 1\n2\n4 6\n6\n6 " + operands + "\n", ZERO);
                Check.due("inductive(0)", loses.inductive(0), false);
                Check.due("inductive(1)", loses.inductive(1), true);
            }
            // From p0 it takes a step of its own: 1 comes to the output behind just one.
            TwinJudge two = Check.both("aag 3 1 2 1 0\n2\n4 0\n6 4\n6\n", ZERO);
            Check.due("inductive(0)", two.inductive(0), false);
            Check.due("inductive(1)", two.inductive(1), false);
            Check.due("inductive(2)", two.inductive(2), true);
            // Nothing tells at all; everything does.
            Check.due("inductive(0)", Check.both(WIRE, WIRE).inductive(0), true);
            TwinJudge always = Check.both("aag 1 1 0 1 0\n2\n1\n", ZERO);
            Check.due("inductive(0)", always.inductive(0), false);
            Check.due("inductive(1)", always.inductive(1), true);
            Check.due("inductive(8)", always.inductive(8), true);
            // They are not EQUIVALENT, and it is INDUCTIVE nevertheless, for what is not less than the LENGTH.
            TwinJudge late = Check.both("aag 2 1 1 1 0\n2\n4 1\n4\n", ZERO);
            Check.due("judge()", late.judge(), 2);
            Check.due("inductive(1)", late.inductive(1), false);
            Check.due("doubts()", late.doubts(), 0);
            Check.due("inductive(2)", late.inductive(2), true);
            Check.due("doubts()", late.doubts(), 0);
            // Of 4096 pairs one half tells at once, the other half in a step, and none later: latch 0 turns over.
            String six = "4 4\n6 6\n8 8\n10 10\n12 12\n";
            TwinJudge turns = Check.both("aag 6 0 6 1 0\n2 3\n" + six + "2\n", "aag 6 0 6 1 0\n2 2\n" + six + "0\n");
            Check.due("inductive(2)", turns.inductive(2), true);
            Check.due("inductive(1)", turns.inductive(1), false);
            Check.due("inductive(0)", turns.inductive(0), false);
            Check.due("judge()", turns.judge(), 2);
            // Pairs of any latches of both: two that hold, which tell if they are not the same.
            TwinJudge unlike = Check.both("aag 2 1 1 1 0\n2\n4 4\n4\n", "aag 2 1 1 1 0\n2\n4 4\n4\n");
            Check.due("inductive(0)", unlike.inductive(0), false);
            Check.due("inductive(1)", unlike.inductive(1), true);
        });
    }

    private void exceptions() {
        sentence.holds(TERMS, "Exceptions, in this order: IllegalStateException (they do not match), IllegalArgumentException "
            + "(something else is not as it must be).", () -> {
            TwinJudge[] unlike = {new TwinJudge(), Check.one(DELAY), Check.both(DELAY, NOTHING)};
            for (TwinJudge x : unlike) {
                Check.throwing("gates()", x::gates, Check.STATE);
                Check.throwing("judge()", x::judge, Check.STATE);
                Check.throwing("differs(0)", () -> x.differs(0), Check.STATE);
                Check.throwing("differs(17)", () -> x.differs(17), Check.STATE);
                Check.throwing("inductive(-1)", () -> x.inductive(-1) ? 1 : 0, Check.STATE);
                Check.throwing("inductive(9)", () -> x.inductive(9) ? 1 : 0, Check.STATE);
                Check.throwing("pairs(2)", () -> x.pairs(2), Check.STATE);
                Check.throwing("depth(64, 64)", () -> x.depth(64, 64), Check.STATE);
                Check.throwing("same(2, 0, 0, 0)", () -> x.same(2, 0, 0, 0) ? 1 : 0, Check.STATE);
                Check.throwing("twin(0, -1)", () -> x.twin(0, -1), Check.STATE);
            }
            TwinJudge x = Check.both(DELAY, DELAY);
            Check.throwing("differs(0)", () -> x.differs(0), Check.ARGUMENT);
            Check.throwing("inductive(9)", () -> x.inductive(9) ? 1 : 0, Check.ARGUMENT);
            Check.throwing("pairs(2)", () -> x.pairs(2), Check.ARGUMENT);
            Check.throwing("depth(64, 64)", () -> x.depth(64, 64), Check.ARGUMENT);
            Check.throwing("same(2, 0, 0, 0)", () -> x.same(2, 0, 0, 0) ? 1 : 0, Check.ARGUMENT);
            Check.throwing("twin(0, -1)", () -> x.twin(0, -1), Check.ARGUMENT);
            Check.due("judge() behind them", x.judge(), 0);
        });
        sentence.holds(TERMS, "The constants: `NONE = -1`: None.", () -> Check.due("NONE", TwinJudge.NONE, -1));
    }
}
