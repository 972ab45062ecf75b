import java.util.ArrayList;
import java.util.Arrays;
import java.util.BitSet;
import java.util.HashMap;
import java.util.List;
import java.util.Map;
import java.util.TreeSet;

/** The document's answers for two plans, found in the plainest way and otherwise than by the class. */
final class Model {
    final Plan[] plans;
    private final int vectors;
    /** By circuit, state and vector: what each variable is, -1 if it is defined nowhere. */
    private final int[][][][] values = new int[2][][][];
    /** The pairs that come up, with their depths: s + 64 * t. */
    final Map<Integer, Integer> depths = new HashMap<>();
    final List<Integer> witness = new ArrayList<>();
    int blame = -1;

    Model(Plan first, Plan second) {
        plans = new Plan[] {first, second};
        vectors = 1 << first.inputs.length;
        for (int c = 0; c < 2; c++) {
            values[c] = new int[1 << plans[c].latches.length][vectors][];
            for (int s = 0; s < values[c].length; s++) {
                for (int x = 0; x < vectors; x++) {
                    values[c][s][x] = settle(plans[c], s, x);
                }
            }
        }
        findDepths();
        findWitness();
    }

    static int[] settle(Plan plan, int s, int x) {
        int[] value = new int[plan.variables + 1];
        Arrays.fill(value, -1);
        value[0] = 0;
        for (int k = 0; k < plan.inputs.length; k++) {
            value[plan.inputs[k]] = x >> k & 1;
        }
        for (int k = 0; k < plan.latches.length; k++) {
            value[plan.latches[k]] = s >> k & 1;
        }
        boolean moved = true;
        while (moved) {
            moved = false;
            for (int[] and : plan.ands) {
                int a = read(value, and[1]);
                int b = read(value, and[2]);
                if (value[and[0]] == -1 && a != -1 && b != -1) {
                    value[and[0]] = a * b;
                    moved = true;
                }
            }
        }
        return value;
    }

    static int read(int[] value, int literal) {
        return value[literal / 2] == -1 ? -1 : value[literal / 2] ^ literal % 2;
    }

    static int gather(int[] value, int[] literals) {
        int bits = 0;
        for (int k = 0; k < literals.length; k++) {
            bits += read(value, literals[k]) << k;
        }
        return bits;
    }

    int value(int c, int pair, int x, int literal) {
        return read(values[c][c == 0 ? pair % 64 : pair / 64][x], literal);
    }

    private int next(int pair, int x) {
        return gather(values[0][pair % 64][x], plans[0].nexts) + 64 * gather(values[1][pair / 64][x], plans[1].nexts);
    }

    private int unlike(int pair, int x) {
        return gather(values[0][pair % 64][x], plans[0].outputs) ^ gather(values[1][pair / 64][x], plans[1].outputs);
    }

    private void findDepths() {
        TreeSet<Integer> layer = new TreeSet<>(List.of(0));
        for (int depth = 0; !layer.isEmpty(); depth++) {
            TreeSet<Integer> later = new TreeSet<>();
            for (int pair : layer) {
                depths.put(pair, depth);
            }
            for (int pair : layer) {
                for (int x = 0; x < vectors; x++) {
                    if (!depths.containsKey(next(pair, x))) {
                        later.add(next(pair, x));
                    }
                }
            }
            layer = later;
        }
    }

    /** How far each pair is from telling, then the lowest vector that comes nearer, again and again. */
    private void findWitness() {
        Map<Integer, Integer> far = new HashMap<>();
        boolean moved = true;
        while (moved) {
            moved = false;
            for (int pair : depths.keySet()) {
                int least = 1_000_000;
                for (int x = 0; x < vectors; x++) {
                    least = Math.min(least, unlike(pair, x) != 0 ? 1 : 1 + far.getOrDefault(next(pair, x), 1_000_000));
                }
                if (least < far.getOrDefault(pair, 1_000_000)) {
                    far.put(pair, least);
                    moved = true;
                }
            }
        }
        int pair = 0;
        for (int left = far.getOrDefault(0, 0); left > 0; left--) {
            int x = 0;
            while (left == 1 ? unlike(pair, x) == 0 : far.getOrDefault(next(pair, x), 1_000_000) != left - 1) {
                x++;
            }
            witness.add(x);
            blame = Integer.numberOfTrailingZeros(unlike(pair, x));
            pair = next(pair, x);
        }
    }

    int length() {
        return witness.size();
    }

    int greatestDepth() {
        return depths.values().stream().mapToInt(d -> d).max().orElse(-1);
    }

    boolean inductive(int k) {
        Map<Long, Boolean> known = new HashMap<>();
        for (int s = 0; s < values[0].length; s++) {
            for (int t = 0; t < values[1].length; t++) {
                if (leads(s + 64 * t, k, known)) {
                    return false;
                }
            }
        }
        return true;
    }

    /** Whether k steps that do not tell, and one that does, can begin at a pair. */
    private boolean leads(int pair, int k, Map<Long, Boolean> known) {
        Boolean before = known.get(pair * 100L + k);
        if (before != null) {
            return before;
        }
        boolean found = false;
        for (int x = 0; x < vectors && !found; x++) {
            boolean tells = unlike(pair, x) != 0;
            found = k == 0 ? tells : !tells && leads(next(pair, x), k - 1, known);
        }
        known.put(pair * 100L + k, found);
        return found;
    }

    boolean isLiteral(int c, int literal) {
        return literal >= 0 && literal <= 2 * plans[c].variables + 1 && value(c, 0, 0, literal) != -1;
    }

    BitSet history(int c, int literal) {
        BitSet bits = new BitSet();
        for (int pair : depths.keySet()) {
            for (int x = 0; x < vectors; x++) {
                bits.set(pair * 32 + x, value(c, pair, x, literal) == 1);
            }
        }
        return bits;
    }

    /** The answer of twin() for each literal of each circuit; -1 for those that there are not. */
    int[][] twins() {
        Map<BitSet, Integer> first = new HashMap<>();
        int[][] answers = new int[2][];
        for (int c = 0; c < 2; c++) {
            answers[c] = new int[2 * plans[c].variables + 2];
            for (int literal = 0; literal < answers[c].length; literal++) {
                boolean there = isLiteral(c, literal);
                if (there) {
                    first.putIfAbsent(history(c, literal), 1000 * c + literal);
                }
                answers[c][literal] = there ? first.get(history(c, literal)) : -1;
            }
        }
        return answers;
    }

    int gates() {
        Map<String, String> gates = new HashMap<>();
        for (int c = 0; c < 2; c++) {
            Map<Integer, String> signals = new HashMap<>();
            signals.put(0, "0");
            for (int k = 0; k < plans[c].inputs.length; k++) {
                signals.put(plans[c].inputs[k], "i" + k);
            }
            for (int k = 0; k < plans[c].latches.length; k++) {
                signals.put(plans[c].latches[k], "l" + c + "." + k);
            }
            for (int[] and : plans[c].ands) {
                signal(plans[c], and[0], signals, gates);
            }
        }
        return gates.size();
    }

    private static String not(String signal) {
        return signal.startsWith("!") ? signal.substring(1) : "!" + signal;
    }

    private static String signal(Plan plan, int v, Map<Integer, String> signals, Map<String, String> gates) {
        if (signals.containsKey(v)) {
            return signals.get(v);
        }
        for (int[] and : plan.ands) {
            if (and[0] == v) {
                String a = signal(plan, and[1] / 2, signals, gates);
                String b = signal(plan, and[2] / 2, signals, gates);
                a = and[1] % 2 == 1 ? not(a) : a;
                b = and[2] % 2 == 1 ? not(b) : b;
                signals.put(v, joined(a, b, gates));
            }
        }
        return signals.get(v);
    }

    private static String joined(String a, String b, Map<String, String> gates) {
        if (a.equals("0") || b.equals("0") || a.equals(not(b))) {
            return "0";
        }
        if (a.equals("!0") || b.equals("!0")) {
            return a.equals("!0") ? b : a;
        }
        if (a.equals(b)) {
            return a;
        }
        String key = a.compareTo(b) < 0 ? a + "&" + b : b + "&" + a;
        return gates.computeIfAbsent(key, any -> "g" + gates.size());
    }
}
