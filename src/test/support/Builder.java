import java.util.ArrayList;
import java.util.List;

/** Makes plans from and, or and exclusive or; the literals are those of the file. */
final class Builder {
    private final List<Integer> inputs = new ArrayList<>();
    private final List<Integer> latches = new ArrayList<>();
    private final List<Integer> outputs = new ArrayList<>();
    private final List<int[]> ands = new ArrayList<>();
    private int[] nexts = new int[0];
    private int variables = 0;

    int input() {
        variables++;
        inputs.add(variables);
        return 2 * variables;
    }

    int latch() {
        variables++;
        latches.add(variables);
        return 2 * variables;
    }

    int and(int a, int b) {
        variables++;
        ands.add(new int[] {variables, a, b});
        return 2 * variables;
    }

    int or(int a, int b) {
        return and(a ^ 1, b ^ 1) ^ 1;
    }

    int xor(int a, int b) {
        return and(and(a, b) ^ 1, or(a, b));
    }

    int choose(int which, int a, int b) {
        return or(and(which, a), and(which ^ 1, b));
    }

    void output(int literal) {
        outputs.add(literal);
    }

    void next(int... literals) {
        nexts = literals;
    }

    /** Whether the bits are just those of a number. */
    int equal(int[] bits, int number) {
        int all = 1;
        for (int k = 0; k < bits.length; k++) {
            all = and(all, (number >> k & 1) == 1 ? bits[k] : bits[k] ^ 1);
        }
        return all;
    }

    /** The bits of a number that is one more, if carry is. */
    int[] more(int[] bits, int carry) {
        int[] sum = new int[bits.length];
        int left = carry;
        for (int k = 0; k < bits.length; k++) {
            sum[k] = xor(bits[k], left);
            left = and(bits[k], left);
        }
        return sum;
    }

    int[] latches(int n) {
        int[] bits = new int[n];
        for (int k = 0; k < n; k++) {
            bits[k] = latch();
        }
        return bits;
    }

    /**
     * Counts, from 0 on, the steps with input 0 (every step, if there are no inputs), and goes
     * back to 0 behind its last count. The output tells whether the count is told.
     */
    static Plan counter(int bits, int inputs, int last, int told) {
        Builder b = new Builder();
        int enable = 1;
        for (int k = 0; k < inputs; k++) {
            int input = b.input();
            enable = k == 0 ? input : enable;
        }
        int[] count = b.latches(bits);
        int[] sum = b.more(count, enable);
        int back = b.and(enable, b.equal(count, last));
        for (int k = 0; k < bits; k++) {
            sum[k] = b.and(sum[k], back ^ 1);
        }
        b.next(sum);
        b.output(b.equal(count, told));
        return b.plan();
    }

    Plan plan() {
        Plan plan = new Plan();
        plan.variables = variables;
        plan.inputs = inputs.stream().mapToInt(v -> v).toArray();
        plan.latches = latches.stream().mapToInt(v -> v).toArray();
        plan.outputs = outputs.stream().mapToInt(v -> v).toArray();
        plan.nexts = nexts;
        plan.ands = ands.toArray(new int[0][]);
        return plan;
    }
}
