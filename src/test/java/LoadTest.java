/** Promises 4 and 6: load and many. */
public final class LoadTest {
    private static final String TOGGLE = "aag 7 2 1 2 4\n2\n4\n6 8\n6\n7\n8 4 10\n10 13 15\n12 2 6\n14 3 7\n";

    public static void main(String[] args) {
        sizes();
        textAndBinaryAlike();
        largest();
        anyOrderOfAnds();
        noSuchCircuit();
        faultLeavesAllAsItWas();
        loadPutsLatchesToZero();
        Check.finish();
    }

    private static void dueMany(TwinJudge x, int c, int... want) {
        for (int what = 0; what < want.length; what++) {
            Check.due("many(" + c + ", " + what + ")", x.many(c, what), want[what]);
        }
        Check.due("many(" + c + ", 5)", x.many(c, 5), -1);
        Check.due("many(" + c + ", -1)", x.many(c, -1), -1);
    }

    private static void sizes() {
        TwinJudge x = new TwinJudge();
        Check.due("load(1)", Check.load(x, 1, "aag 9 2 1 3 2\n2\n4\n6 7\n6\n0\n1\n8 2 4\n18 8 1\n"), 2);
        dueMany(x, 1, 9, 2, 1, 3, 2);
        dueMany(x, 0, -1, -1, -1, -1, -1);
        dueMany(x, 2, -1, -1, -1, -1, -1);
        dueMany(x, -1, -1, -1, -1, -1, -1);
        dueMany(x, Integer.MIN_VALUE, -1);
        Check.due("load(0)", Check.load(x, 0, "aag 0 0 0 0 0\n"), 0);
        dueMany(x, 0, 0, 0, 0, 0, 0);
        dueMany(x, 1, 9, 2, 1, 3, 2);
        Check.due("load(1) anew", Check.load(x, 1, "aag 3 1 0 0 0\n6\n"), 0);
        dueMany(x, 1, 3, 1, 0, 0, 0);
    }

    /** The same circuit in both forms: literal 8 is 6 and not 2, literal 10 is 8 and 9. */
    private static void textAndBinaryAlike() {
        String text = "aag 5 1 2 2 2\n2\n4 8\n6 5\n10\n9\n8 6 3\n10 9 8\n";
        String binary = "aig 5 1 2 2 2\n8\n5\n10\n9\n" + "\2\3" + "\1\1";
        TwinJudge x = Check.both(text, binary);
        for (int what = 0; what < 5; what++) {
            Check.due("many(1, " + what + ")", x.many(1, what), x.many(0, what));
        }
        for (int n = 0; n < 8; n++) {
            for (int literal = 0; literal < 12; literal++) {
                Check.due("value(1, " + literal + ")", x.value(1, literal, n), x.value(0, literal, n));
            }
            int outputs = x.step(n % 3);
            Check.due("step", outputs >> 8, outputs & 255);
        }
        Check.due("judge()", x.judge(), 0);
        String longDeltas = "aig 5 1 2 2 2\n8\n5\n10\n9\n" + "\u0082\0\u0083\u0080\0" + "\1\u0081\0";
        Check.due("load(1): more bytes than needed", Check.load(x, 1, longDeltas), 2);
        Check.due("gates()", x.gates(), 2);
        Check.due("judge()", x.judge(), 0);
    }

    private static void largest() {
        StringBuilder text = new StringBuilder("aag 200 5 6 8 150\n");
        for (int k = 0; k < 5; k++) {
            text.append(2 * (200 - k)).append('\n');
        }
        for (int k = 0; k < 6; k++) {
            text.append(2 * (195 - k)).append(" 2\n");
        }
        for (int k = 0; k < 8; k++) {
            text.append(2 * k + 3).append('\n');
        }
        for (int k = 1; k <= 150; k++) {
            text.append(2 * k).append(' ').append(k < 150 ? 2 * k + 2 : 400).append(' ').append(398).append('\n');
        }
        TwinJudge x = new TwinJudge();
        Check.due("load(0)", Check.load(x, 0, text.toString()), 150);
        dueMany(x, 0, 200, 5, 6, 8, 150);
        Check.due("value(0, 2, 3)", x.value(0, 2, 3), 1);
        Check.due("value(0, 2, 1)", x.value(0, 2, 1), 0);
        Check.due("step(3)", x.step(3), 0);
        Check.due("state(0)", x.state(0), 63);
        StringBuilder binary = new StringBuilder("aig 161 5 6 8 150\n");
        for (int k = 0; k < 14; k++) {
            binary.append("323\n");
        }
        for (int v = 12; v <= 161; v++) {
            binary.append((char) (128 + (2 * v - 2 & 127))).append((char) (2 * v - 2 >> 7)).append('\0');
        }
        Check.due("load(1)", Check.load(x, 1, binary.toString()), 150);
        dueMany(x, 1, 161, 5, 6, 8, 150);
        Check.due("value(1, 322, 1)", x.value(1, 322, 1), 1);
        Check.due("value(1, 322, 30)", x.value(1, 322, 30), 0);
        Check.due("gates()", x.gates(), 150);
    }

    private static void anyOrderOfAnds() {
        TwinJudge x = new TwinJudge();
        Check.due("load(0)", Check.load(x, 0, "aag 6 2 0 1 4\n2\n4\n12\n12 10 8\n10 8 6\n8 6 5\n6 2 2\n"), 4);
        for (int vector = 0; vector < 4; vector++) {
            Check.due("value(0, 12, " + vector + ")", x.value(0, 12, vector), vector == 1 ? 1 : 0);
        }
    }

    private static void noSuchCircuit() {
        int[] bad = {2, -1, Integer.MAX_VALUE, Integer.MIN_VALUE};
        for (int c : bad) {
            TwinJudge x = Check.both(TOGGLE, TOGGLE);
            x.step(1);
            Check.load(x, 0, "aag");
            Check.due("fault(0) ahead", x.fault(0), 1);
            x.step(1);
            int state = x.state(0);
            Check.put(x, Check.bytes("aag"));
            Check.throwing("load(" + c + ")", () -> x.load(c), Check.ARGUMENT);
            Check.due("fault(0): nothing was read", x.fault(0), 0);
            Check.due("fault(1)", x.fault(1), -1);
            Check.due("the tape is empty", x.end(0), 0);
            Check.due("state(0) stays", x.state(0), state);
        }
    }

    private static void faultLeavesAllAsItWas() {
        TwinJudge x = new TwinJudge();
        Check.put(x, Check.bytes("aag 1 1 0 0 0\n2"));
        Check.throwing("load(0) with a fault", () -> x.load(0), Check.ARGUMENT);
        Check.due("the tape is empty", x.end(0), 0);
        Check.due("many(0, 0): there is none", x.many(0, 0), -1);
        Check.due("load(0)", Check.load(x, 0, TOGGLE + "i0 a\n"), 4);
        Check.due("load(1)", Check.load(x, 1, TOGGLE), 4);
        x.step(2);
        Check.due("state(0)", x.state(0), 0);
        x.step(3);
        Check.due("state(0)", x.state(0), 1);
        // Each file is read far enough to have changed much.
        Check.load(x, 0, "aag 8 5 0 1 2\n2\n4\n6\n8\n10\n16\n12 2 16\n14 4 6\ni0 b\n");
        Check.due("fault(0)", x.fault(0), 5);
        Check.load(x, 0, "aag 7 1 1 1 2\n2\n4 10\n10\n10 12 2\n12 10 4\ni0 b\n");
        Check.due("fault(0)", x.fault(0), 6);
        Check.due("state(0) stays", x.state(0), 1);
        Check.due("state(1) stays", x.state(1), 1);
        dueMany(x, 0, 7, 2, 1, 2, 4);
        Check.due("symbol(0, 0, 0, 0)", x.symbol(0, 0, 0, 0), 'a');
        Check.due("judge()", x.judge(), 0);
        Check.due("step(0)", x.step(0), 0x0101);
        Check.due("fault(0) stays", x.fault(0), 6);
        Check.due("load(0)", Check.load(x, 0, "aag 0 0 0 0 0\n"), 0);
        Check.due("fault(0)", x.fault(0), 0);
        Check.due("fault(1)", x.fault(1), -1);
        Check.due("symbol(0, 0, 0, 0) is gone", x.symbol(0, 0, 0, 0), -1);
    }

    private static void loadPutsLatchesToZero() {
        TwinJudge x = Check.both(TOGGLE, TOGGLE);
        x.step(3);
        Check.due("state(1)", x.state(1), 1);
        Check.load(x, 0, "aag 0 0 0 0 0\n");
        Check.due("state(0)", x.state(0), 0);
        Check.due("state(1): of both", x.state(1), 0);
    }
}
