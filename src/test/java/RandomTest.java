import java.util.Random;

/** Promises 6 and 8 to 22 on many made circuits, against a plain model. */
public final class RandomTest {
    private static final Random RANDOM = new Random(20261115);

    public static void main(String[] args) {
        for (int n = 0; n < 600; n++) {
            compare(n, n % 40 == 0 ? 6 : 4);
        }
        for (int n = 0; n < 60; n++) {
            compareCounters(n);
        }
        Check.finish();
    }

    private static int upTo(int most) {
        return RANDOM.nextInt(most + 1);
    }

    private static Plan plan(int inputs, int outputs, int mostLatches) {
        boolean binary = RANDOM.nextBoolean();
        int ands = RANDOM.nextInt(10) == 0 ? 150 : upTo(30);
        return Plan.random(RANDOM, inputs, upTo(mostLatches), outputs, ands, binary);
    }

    /** They go deep, and most of them tell late or never. */
    private static void compareCounters(int n) {
        int inputs = upTo(2);
        int bits = 1 + upTo(4);
        int last = RANDOM.nextInt(1 << bits);
        int told = RANDOM.nextInt(1 << bits);
        Plan first = Builder.counter(bits, inputs, last, told);
        Plan second = n % 2 == 0 ? first.renamed(RANDOM)
            : Builder.counter(Math.max(1, bits - upTo(1)), inputs, RANDOM.nextInt(32), n % 3 == 0 ? told : RANDOM.nextInt(32));
        if (n % 4 == 0) {
            second.change(RANDOM);
        }
        compareAll("counters " + n + ": ", new Model(first, second));
    }

    private static void compare(int n, int mostLatches) {
        int inputs = RANDOM.nextInt(8) == 0 ? 5 : upTo(3);
        int outputs = RANDOM.nextInt(8) == 0 ? 8 : upTo(2);
        Plan first = plan(inputs, outputs, mostLatches);
        Plan second = n % 4 == 0 ? plan(inputs, outputs, mostLatches) : first.renamed(RANDOM);
        for (int k = n % 4; k > 1; k--) {
            second.change(RANDOM);
        }
        compareAll("circuits " + n + ": ", new Model(first, second));
    }

    private static void compareAll(String run, Model model) {
        // An object is used for at most 512 calls.
        TwinJudge x = loaded(run, model);
        compareJudgement(run, x, model);
        comparePlay(run, x, model);
        Check.due(run + "doubts()", x.doubts(), 0);
        TwinJudge y = loaded(run, model);
        comparePairs(run, y, model);
        compareTwins(run, y, model);
        Check.due(run + "doubts()", y.doubts(), 0);
    }

    private static TwinJudge loaded(String run, Model model) {
        TwinJudge x = new TwinJudge();
        for (int c = 0; c < 2; c++) {
            Plan plan = model.plans[c];
            Check.due(run + "load(" + c + ")", Check.load(x, c, plan.file()), plan.ands.length);
        }
        return x;
    }

    private static void compareJudgement(String run, TwinJudge x, Model model) {
        int length = model.length();
        Check.due(run + "gates()", x.gates(), model.gates());
        // In any order of the calls.
        if (RANDOM.nextBoolean()) {
            Check.due(run + "judge()", x.judge(), length);
        }
        for (int k = 0; k <= length; k++) {
            Check.due(run + "witness(" + k + ")", x.witness(k), k < length ? model.witness.get(k) : -1);
        }
        Check.due(run + "blame()", x.blame(), model.blame);
        for (int m = 16; m >= 1; m -= 1 + upTo(4)) {
            Check.due(run + "differs(" + m + ")", x.differs(m), length <= m ? length : 0);
        }
        for (int k = 0; k <= 8; k += 1 + upTo(2)) {
            Check.due(run + "inductive(" + k + ")", x.inductive(k), model.inductive(k));
        }
        Check.due(run + "judge()", x.judge(), length);
    }

    private static void comparePairs(String run, TwinJudge x, Model model) {
        Check.due(run + "pairs(0)", x.pairs(0), model.depths.size());
        Check.due(run + "pairs(1)", x.pairs(1), model.greatestDepth());
        for (int n = 0; n < 60; n++) {
            int s = RANDOM.nextInt(1 << model.plans[0].latches.length);
            int t = RANDOM.nextInt(1 << model.plans[1].latches.length);
            int due = model.depths.getOrDefault(s + 64 * t, -1);
            Check.due(run + "depth(" + s + ", " + t + ")", x.depth(s, t), due);
        }
    }

    private static void compareTwins(String run, TwinJudge x, Model model) {
        int[][] twins = model.twins();
        for (int n = 0; n < 60; n++) {
            int c = upTo(1);
            int literal = RANDOM.nextInt(twins[c].length);
            String call = run + "twin(" + c + ", " + literal + ")";
            if (twins[c][literal] == -1) {
                Check.throwing(call, () -> x.twin(c, literal), Check.ARGUMENT);
            } else {
                Check.due(call, x.twin(c, literal), twins[c][literal]);
            }
        }
        for (int k = 0; k < 40; k++) {
            int c = upTo(1);
            int d = upTo(1);
            int literal = RANDOM.nextInt(twins[c].length);
            int other = RANDOM.nextInt(twins[d].length);
            if (twins[c][literal] != -1 && twins[d][other] != -1) {
                String call = run + "same(" + c + ", " + literal + ", " + d + ", " + other + ")";
                Check.due(call, x.same(c, literal, d, other), twins[c][literal] == twins[d][other]);
            }
        }
    }

    private static void comparePlay(String run, TwinJudge x, Model model) {
        Check.due(run + "state(0): nothing moved it", x.state(0), 0);
        Check.due(run + "state(1): nothing moved it", x.state(1), 0);
        int[] states = new int[2];
        for (int n = 0; n < 20; n++) {
            int vector = RANDOM.nextInt();
            int due = 0;
            for (int c = 0; c < 2; c++) {
                Plan plan = model.plans[c];
                int[] value = Model.settle(plan, states[c], vector);
                int literal = RANDOM.nextInt(2 * plan.variables + 2);
                Check.due(run + "value", x.value(c, literal, vector), Model.read(value, literal));
                due += Model.gather(value, plan.outputs) << 8 * c;
                states[c] = Model.gather(value, plan.nexts);
            }
            Check.due(run + "step(" + vector + ")", x.step(vector), due);
            Check.due(run + "state(0)", x.state(0), states[0]);
            Check.due(run + "state(1)", x.state(1), states[1]);
        }
    }
}
