import java.io.ByteArrayOutputStream;
import java.util.ArrayList;
import java.util.Collections;
import java.util.List;
import java.util.Random;

/** A circuit as the tests make it, and its file in either form. */
final class Plan {
    int variables;
    int[] inputs;
    int[] latches;
    int[] nexts;
    int[] outputs;
    /** Each with its variable and two operands, as they stand in the file. */
    int[][] ands;
    boolean binary;

    /** A circuit that works; a binary one has its variables in order, a text one anywhere. */
    static Plan random(Random random, int inputs, int latches, int outputs, int ands, boolean binary) {
        Plan plan = new Plan();
        plan.binary = binary;
        int needed = inputs + latches + ands;
        plan.variables = binary ? needed : Math.min(200, needed + random.nextInt(4));
        List<Integer> names = new ArrayList<>();
        for (int v = 1; v <= plan.variables; v++) {
            names.add(v);
        }
        if (!binary) {
            Collections.shuffle(names, random);
        }
        plan.inputs = new int[inputs];
        plan.latches = new int[latches];
        plan.ands = new int[ands][];
        List<Integer> known = new ArrayList<>();
        for (int k = 0; k < inputs; k++) {
            plan.inputs[k] = names.get(k);
            known.add(names.get(k));
        }
        for (int k = 0; k < latches; k++) {
            plan.latches[k] = names.get(inputs + k);
            known.add(plan.latches[k]);
        }
        for (int k = 0; k < ands; k++) {
            int v = names.get(inputs + latches + k);
            int left = literal(random, known);
            int right = literal(random, known);
            plan.ands[k] = new int[] {v, binary ? Math.max(left, right) : left, binary ? Math.min(left, right) : right};
            known.add(v);
        }
        plan.nexts = new int[latches];
        for (int k = 0; k < latches; k++) {
            plan.nexts[k] = literal(random, known);
        }
        plan.outputs = new int[outputs];
        for (int k = 0; k < outputs; k++) {
            plan.outputs[k] = literal(random, known);
        }
        if (!binary) {
            plan.shuffleAnds(random);
        }
        return plan;
    }

    private void shuffleAnds(Random random) {
        List<int[]> rows = new ArrayList<>(List.of(ands));
        Collections.shuffle(rows, random);
        ands = rows.toArray(new int[0][]);
    }

    private static int literal(Random random, List<Integer> known) {
        if (known.isEmpty() || random.nextInt(25) == 0) {
            return random.nextInt(2);
        }
        // The latest ones are taken more often, so that the circuit becomes deep.
        int from = random.nextInt(3) == 0 ? 0 : Math.max(0, known.size() - 8);
        return 2 * known.get(from + random.nextInt(known.size() - from)) + random.nextInt(2);
    }

    /** The same circuit with other numbers, its ands in another order: a text. */
    Plan renamed(Random random) {
        Plan plan = new Plan();
        plan.variables = Math.min(200, variables + random.nextInt(3));
        List<Integer> names = new ArrayList<>();
        for (int v = 1; v <= plan.variables; v++) {
            names.add(v);
        }
        Collections.shuffle(names, random);
        plan.inputs = new int[inputs.length];
        for (int k = 0; k < inputs.length; k++) {
            plan.inputs[k] = names.get(inputs[k] - 1);
        }
        plan.latches = new int[latches.length];
        for (int k = 0; k < latches.length; k++) {
            plan.latches[k] = names.get(latches[k] - 1);
        }
        plan.nexts = moved(nexts, names);
        plan.outputs = moved(outputs, names);
        plan.ands = new int[ands.length][];
        for (int k = 0; k < ands.length; k++) {
            int[] operands = moved(new int[] {ands[k][2], ands[k][1]}, names);
            plan.ands[k] = new int[] {names.get(ands[k][0] - 1), operands[0], operands[1]};
        }
        plan.shuffleAnds(random);
        return plan;
    }

    private static int[] moved(int[] literals, List<Integer> names) {
        int[] others = new int[literals.length];
        for (int k = 0; k < literals.length; k++) {
            others[k] = literals[k] < 2 ? literals[k] : 2 * names.get(literals[k] / 2 - 1) + literals[k] % 2;
        }
        return others;
    }

    /** One literal somewhere is negated, if there is one. */
    void change(Random random) {
        int places = nexts.length + outputs.length + ands.length;
        if (places == 0) {
            return;
        }
        int where = random.nextInt(places);
        if (where < nexts.length) {
            nexts[where] ^= 1;
        } else if (where < nexts.length + outputs.length) {
            outputs[where - nexts.length] ^= 1;
        } else {
            ands[where - nexts.length - outputs.length][1 + random.nextInt(2)] ^= 1;
        }
    }

    byte[] file() {
        ByteArrayOutputStream file = new ByteArrayOutputStream();
        line(file, (binary ? "aig " : "aag ") + variables + " " + inputs.length + " " + latches.length
            + " " + outputs.length + " " + ands.length);
        for (int k = 0; k < inputs.length && !binary; k++) {
            line(file, "" + 2 * inputs[k]);
        }
        for (int k = 0; k < latches.length; k++) {
            line(file, (binary ? "" : 2 * latches[k] + " ") + nexts[k]);
        }
        for (int output : outputs) {
            line(file, "" + output);
        }
        for (int[] and : ands) {
            if (binary) {
                delta(file, 2 * and[0] - and[1]);
                delta(file, and[1] - and[2]);
            } else {
                line(file, 2 * and[0] + " " + and[1] + " " + and[2]);
            }
        }
        return file.toByteArray();
    }

    private static void line(ByteArrayOutputStream file, String text) {
        file.writeBytes(Check.bytes(text + "\n"));
    }

    private static void delta(ByteArrayOutputStream file, int delta) {
        int rest = delta;
        while (rest >= 128) {
            file.write(rest % 128 + 128);
            rest /= 128;
        }
        file.write(rest);
    }
}
