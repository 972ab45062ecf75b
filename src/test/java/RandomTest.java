import java.util.Random;

/** Promises 6 and 8 to 22 on many made circuits, against a plain model. */
public final class RandomTest {
    private static final Random RANDOM = new Random(20261115);

    public static void main(String[] args) {
        for (int n = 0; n < 400; n++) {
            compare(n, n % 40 == 0 ? 6 : 4);
        }
        Check.finish();
    }

    private static int upTo(int most) {
        return RANDOM.nextInt(most + 1);
    }

    private static Plan plan(int inputs, int outputs, int mostLatches) {
        boolean binary = RANDOM.nextBoolean();
        int ands = RANDOM.nextInt(10) == 0 ? 150 : upTo(30);
        Plan plan = Plan.random(RANDOM, inputs, upTo(mostLatches), outputs, ands, binary);
        return plan;
    }

    private static void compare(int n, int mostLatches) {
        int inputs = RANDOM.nextInt(8) == 0 ? 5 : upTo(3);
        int outputs = RANDOM.nextInt(8) == 0 ? 8 : upTo(2);
        Plan first = plan(inputs, outputs, mostLatches);
        Plan second = n % 4 == 0 ? plan(inputs, outputs, mostLatches) : first.renamed(RANDOM);
        for (int k = n % 4; k > 1 && second.nexts.length + second.outputs.length + second.ands.length > 0; k--) {
            second.change(RANDOM);
        }
        TwinJudge x = new TwinJudge();
        String run = "circuits " + n + ": ";
        Check.due(run + "load(0)", Check.load(x, 0, first.file()), first.ands.length);
        Check.due(run + "load(1)", Check.load(x, 1, second.file()), second.ands.length);
        Model model = new Model(first, second);
        compareJudgement(run, x, model);
        comparePairs(run, x, model);
        compareTwins(run, x, model);
        comparePlay(run, x, model);
        Check.due(run + "doubts()", x.doubts(), 0);
    }

    private static void compareJudgement(String run, TwinJudge x, Model model) {
        int length = model.length();
        Check.due(run + "gates()", x.gates(), model.gates());
        // In any order of the calls.
        if (RANDOM.nextBoolean()) {
            Check.due(run + "judge()", x.judge(), length);
        }
        for (int k = 0; k <= length; k++) {
            Check.due(run + "witness(" + k + ")", x.witness(k), k < length ? model.witness.get(k) : -1);
        }
        Check.due(run + "blame()", x.blame(), model.blame);
        for (int m = 16; m >= 1; m -= 1 + upTo(4)) {
            Check.due(run + "differs(" + m + ")", x.differs(m), length <= m ? length : 0);
        }
        for (int k = 0; k <= 8; k += 1 + upTo(2)) {
            Check.due(run + "inductive(" + k + ")", x.inductive(k), model.inductive(k));
        }
        Check.due(run + "judge()", x.judge(), length);
    }

    private static void comparePairs(String run, TwinJudge x, Model model) {
        Check.due(run + "pairs(0)", x.pairs(0), model.depths.size());
        Check.due(run + "pairs(1)", x.pairs(1), model.greatestDepth());
        for (int s = 0; s < 1 << x.many(0, 2); s++) {
            for (int t = 0; t < 1 << x.many(1, 2); t++) {
                int due = model.depths.getOrDefault(s + 64 * t, -1);
                Check.due(run + "depth(" + s + ", " + t + ")", x.depth(s, t), due);
            }
        }
    }

    private static void compareTwins(String run, TwinJudge x, Model model) {
        int[][] twins = model.twins();
        for (int c = 0; c < 2; c++) {
            for (int literal = 0; literal < twins[c].length; literal++) {
                int circuit = c;
                int asked = literal;
                if (twins[c][literal] == -1) {
                    Check.throwing(run + "twin", () -> x.twin(circuit, asked), Check.ARGUMENT);
                } else {
                    Check.due(run + "twin(" + c + ", " + literal + ")", x.twin(c, literal), twins[c][literal]);
                }
            }
        }
        for (int k = 0; k < 40; k++) {
            int c = upTo(1);
            int d = upTo(1);
            int literal = RANDOM.nextInt(twins[c].length);
            int other = RANDOM.nextInt(twins[d].length);
            if (twins[c][literal] != -1 && twins[d][other] != -1) {
                String call = run + "same(" + c + ", " + literal + ", " + d + ", " + other + ")";
                Check.due(call, x.same(c, literal, d, other), twins[c][literal] == twins[d][other]);
            }
        }
    }

    private static void comparePlay(String run, TwinJudge x, Model model) {
        Check.due(run + "state(0): nothing moved it", x.state(0), 0);
        Check.due(run + "state(1): nothing moved it", x.state(1), 0);
        int[] states = new int[2];
        for (int n = 0; n < 20; n++) {
            int vector = RANDOM.nextInt();
            int due = 0;
            for (int c = 0; c < 2; c++) {
                Plan plan = model.plans[c];
                int[] value = Model.settle(plan, states[c], vector);
                int literal = RANDOM.nextInt(2 * plan.variables + 2);
                Check.due(run + "value", x.value(c, literal, vector), Model.read(value, literal));
                due += Model.gather(value, plan.outputs) << 8 * c;
                states[c] = Model.gather(value, plan.nexts);
            }
            Check.due(run + "step(" + vector + ")", x.step(vector), due);
            Check.due(run + "state(0)", x.state(0), states[0]);
            Check.due(run + "state(1)", x.state(1), states[1]);
        }
    }
}
