import java.util.Random;

/** All promises: runs of 512 calls on one object, good and bad ones mixed, against a plain model. */
public final class RunsTest {
    private static final int CALLS = 512;
    private static final int[] EDGES = {
        Integer.MIN_VALUE, -1000, -2, -1, 0, 1, 2, 3, 4, 5, 6, 7, 8, 9, 15, 16, 17, 31, 32, 63, 64, 255, 256,
        401, 402, 1000, 1002, Integer.MAX_VALUE
    };

    private final Random random;
    private final FileMaker maker;
    private final String run;
    private final TwinJudge x = new TwinJudge();
    private final TwinModel y = new TwinModel();
    private int calls = 0;
    /** What most files of the run have, so that the circuits match now and then. */
    private final int inputs;
    private final int outputs;
    private Plan latest;

    private RunsTest(int number) {
        random = new Random(number);
        maker = new FileMaker(random);
        run = "run " + number + ", call ";
        inputs = random.nextInt(4);
        outputs = random.nextInt(4) == 0 ? random.nextInt(4) : 1;
    }

    public static void main(String[] args) {
        for (int number = 0; number < 250; number++) {
            new RunsTest(number).go();
        }
        Check.finish();
    }

    private void go() {
        putFile();
        putFile();
        while (calls < CALLS) {
            switch (random.nextInt(40)) {
                case 0: case 1: putFile(); break;
                case 2: feedAnything(); break;
                default: ask(random.nextInt(20)); break;
            }
        }
        Check.due(run + "doubts()", x.doubts(), 0);
    }

    private static String outcome(Check.Call call) {
        try {
            return "" + call.answer();
        } catch (RuntimeException e) {
            return "throws." + e.getClass().getSimpleName();
        }
    }

    private void compare(String call, Check.Call got, Check.Call want) {
        if (calls < CALLS) {
            calls++;
            String answer = outcome(got);
            String due = outcome(want);
            Check.due(run + calls + ", " + call + " answers " + answer + " (" + due + ")", answer.equals(due), true);
        }
    }

    private static int bit(boolean answer) {
        return answer ? 1 : 0;
    }

    /** Mostly a small number, sometimes any edge. */
    private int pick(int most) {
        return random.nextInt(8) == 0 ? EDGES[random.nextInt(EDGES.length)] : random.nextInt(most + 1);
    }

    private void feed(int... words) {
        calls++;
        x.feed(words[0], words[1], words[2], words[3], words[4]);
        y.feed(words);
    }

    private void end(int n) {
        compare("end(" + n + ")", () -> x.end(n), () -> y.end(n));
    }

    private void feedAnything() {
        if (calls < CALLS && random.nextBoolean()) {
            feed(random.nextInt(), random.nextInt(), random.nextInt(), random.nextInt(), random.nextInt());
        }
        if (random.nextInt(4) == 0) {
            end(pick(20));
        }
    }

    private byte[] nextFile() {
        switch (random.nextInt(12)) {
            case 0:
                return maker.file();
            case 1:
                return maker.changed(maker.file(inputs, outputs));
            case 2: case 3: case 4: case 5: case 6:
                return maker.withNames(latest == null ? newPlan() : likeLatest());
            default:
                return maker.withNames(newPlan());
        }
    }

    private Plan newPlan() {
        if (random.nextInt(3) == 0) {
            latest = Builder.counter(1 + random.nextInt(3), inputs, random.nextInt(8), random.nextInt(8));
        } else {
            latest = Plan.random(random, inputs, random.nextInt(5), outputs, random.nextInt(12), random.nextBoolean());
        }
        return latest;
    }

    private Plan likeLatest() {
        Plan other = latest.renamed(random);
        if (random.nextInt(3) == 0) {
            other.change(random);
        }
        return other;
    }

    private void putFile() {
        byte[] file = nextFile();
        // What is fed now and then is left ahead of a file: a load() clears it away.
        if (random.nextInt(4) != 0) {
            load(2);
        }
        for (int at = 0; at < file.length && calls < CALLS; at += 20) {
            int[] words = new int[5];
            for (int k = 0; k < 20; k++) {
                words[k / 4] = words[k / 4] << 8 | (at + k < file.length ? file[at + k] & 255 : random.nextInt(256));
            }
            feed(words);
            end(Math.min(20, file.length - at));
        }
        load(pick(1));
    }

    private void load(int c) {
        compare("load(" + c + ")", () -> x.load(c), () -> y.load(c));
        compare("fault(0)", () -> x.fault(0), () -> y.fault(0));
        compare("fault(1)", () -> x.fault(1), () -> y.fault(1));
    }

    private void ask(int call) {
        int a = pick(1);
        int b = pick(call == 13 ? 16 : 8);
        int c = pick(call == 15 ? 7 : 25);
        int d = pick(25);
        switch (call) {
            case 0: compare("fault(" + b + ")", () -> x.fault(b), () -> y.fault(b)); break;
            case 1: compare("many(" + a + ", " + b + ")", () -> x.many(a, b), () -> y.many(a, b)); break;
            case 2: case 3: askSymbol(a, pick(2), pick(3), c % 42); break;
            case 4: askReset(); break;
            case 5: compare("state(" + a + ")", () -> x.state(a), () -> y.state(a)); break;
            case 6: case 7: askValue(a, c, random.nextInt()); break;
            case 8: compare("step(" + c + ")", () -> x.step(c), () -> y.step(c)); break;
            case 9: compare("gates()", x::gates, y::gates); break;
            case 10: compare("judge()", x::judge, y::judge); break;
            case 11: compare("witness(" + b + ")", () -> x.witness(b), () -> y.witness(b)); break;
            case 12: compare("blame()", x::blame, y::blame); break;
            case 13: compare("differs(" + b + ")", () -> x.differs(b), () -> y.differs(b)); break;
            case 14: compare("inductive(" + b + ")", () -> bit(x.inductive(b)), () -> bit(y.inductive(b))); break;
            case 15: compare("depth(" + c + ", " + b + ")", () -> x.depth(c, b), () -> y.depth(c, b)); break;
            case 16: compare("pairs(" + a + ")", () -> x.pairs(a), () -> y.pairs(a)); break;
            case 17: askSame(a, c, pick(1), d); break;
            case 18: compare("twin(" + a + ", " + c + ")", () -> x.twin(a, c), () -> y.twin(a, c)); break;
            default: compare("doubts()", x::doubts, () -> 0); break;
        }
    }

    private void askSymbol(int c, int kind, int k, int i) {
        compare("symbol(" + c + ", " + kind + ", " + k + ", " + i + ")", () -> x.symbol(c, kind, k, i),
            () -> y.symbol(c, kind, k, i));
    }

    private void askReset() {
        compare("reset()", () -> {
            x.reset();
            return 0;
        }, () -> {
            y.reset();
            return 0;
        });
    }

    private void askValue(int c, int literal, int vector) {
        compare("value(" + c + ", " + literal + ", " + vector + ")", () -> x.value(c, literal, vector),
            () -> y.value(c, literal, vector));
    }

    private void askSame(int c, int literal, int d, int other) {
        compare("same(" + c + ", " + literal + ", " + d + ", " + other + ")", () -> bit(x.same(c, literal, d, other)),
            () -> bit(y.same(c, literal, d, other)));
    }
}
