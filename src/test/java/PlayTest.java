/** Promises 8 to 11: reset, state, value and step. */
public final class PlayTest {
    /** Two inputs; latch 0 takes input 1, latch 1 takes latch 0; outputs: latch 1, input 0 and latch 0, not it. */
    private static final String SHIFT = "aag 9 2 2 3 1\n4\n2\n6 2\n8 6\n8\n10\n11\n10 4 6\n";
    /** A counter of three bits without inputs: outputs are its bits. */
    private static final String COUNTER =
        "aag 9 0 3 3 6\n2 3\n4 12\n6 18\n2\n4\n6\n8 2 4\n10 3 5\n12 9 11\n14 8 6\n16 9 7\n18 15 17\n";

    public static void main(String[] args) {
        oneCircuit();
        bothCircuits();
        values();
        Check.finish();
    }

    private static void oneCircuit() {
        TwinJudge x = new TwinJudge();
        Check.load(x, 1, SHIFT);
        Check.due("state(0)", x.state(0), -1);
        Check.due("state(1)", x.state(1), 0);
        Check.due("step(2)", x.step(2), 256 * 4);
        Check.due("state(1)", x.state(1), 1);
        Check.due("step(1)", x.step(1), 256 * 2);
        Check.due("state(1)", x.state(1), 2);
        Check.due("step(3)", x.step(3), 256 * 5);
        Check.due("state(1)", x.state(1), 1);
        // Only the lowest bits of the vector count.
        Check.due("step(-3)", x.step(-3), 256 * 2);
        Check.due("state(1)", x.state(1), 2);
        Check.due("step(MIN)", x.step(Integer.MIN_VALUE), 256 * 5);
        Check.due("step(-2)", x.step(-2), 256 * 4);
        Check.due("state(1)", x.state(1), 1);
        x.reset();
        Check.due("state(1) behind reset()", x.state(1), 0);
        Check.due("state(2)", x.state(2), -1);
        Check.due("state(-1)", x.state(-1), -1);
    }

    /** They need not match. */
    private static void bothCircuits() {
        TwinJudge x = Check.both(COUNTER, SHIFT);
        for (int n = 0; n < 4; n++) {
            Check.due("state(0)", x.state(0), n);
            Check.due("step(2)", x.step(2) & 255, n);
        }
        Check.due("state(1)", x.state(1), 3);
        Check.due("step(1)", x.step(1), 4 + 256 * 3);
        Check.due("state(0)", x.state(0), 5);
        Check.due("state(1)", x.state(1), 2);
        x.reset();
        Check.due("state(0) behind reset()", x.state(0), 0);
        Check.due("state(1) behind reset()", x.state(1), 0);
        Check.throwing("judge()", x::judge, Check.STATE);
        Check.due("step(0)", x.step(0), 256 * 4);
    }

    private static void values() {
        TwinJudge x = new TwinJudge();
        Check.load(x, 0, SHIFT);
        int[] due = {0, 1, 1, 0, 0, 1, 0, 1, 0, 1, 0, 1};
        for (int literal = 0; literal < due.length; literal++) {
            Check.due("value(0, " + literal + ", 2)", x.value(0, literal, 2), due[literal]);
        }
        x.step(2);
        int[] later = {0, 1, 0, 1, 1, 0, 1, 0, 0, 1, 1, 0};
        for (int literal = 0; literal < later.length; literal++) {
            Check.due("value(0, " + literal + ", 5)", x.value(0, literal, 5), later[literal]);
        }
        Check.due("state(0): value() moves nothing", x.state(0), 1);
        for (int literal : new int[] {12, 13, 18, 19, 20, -1, -2, 400, 402, Integer.MAX_VALUE, Integer.MIN_VALUE}) {
            Check.due("value(0, " + literal + ", 0)", x.value(0, literal, 0), -1);
        }
        for (int c : new int[] {1, 2, -1}) {
            Check.due("value(" + c + ", 0, 0)", x.value(c, 0, 0), -1);
            Check.due("value(" + c + ", 2, 0)", x.value(c, 2, 0), -1);
        }
        Check.load(x, 1, "aag 200 1 0 0 0\n400\n");
        Check.due("value(1, 400, 1)", x.value(1, 400, 1), 1);
        Check.due("value(1, 401, 1)", x.value(1, 401, 1), 0);
        Check.due("value(1, 402, 1)", x.value(1, 402, 1), -1);
        Check.due("value(1, 403, 1)", x.value(1, 403, 1), -1);
        Check.load(x, 1, "aag 0 0 0 0 0\n");
        Check.due("value(1, 0, 7)", x.value(1, 0, 7), 0);
        Check.due("value(1, 1, 7)", x.value(1, 1, 7), 1);
        Check.due("value(1, 2, 7)", x.value(1, 2, 7), -1);
        Check.due("state(1)", x.state(1), 0);
    }
}
