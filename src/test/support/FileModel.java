import java.util.ArrayDeque;
import java.util.ArrayList;
import java.util.Arrays;
import java.util.HashMap;
import java.util.HashSet;
import java.util.List;
import java.util.Map;
import java.util.Set;

/** What the document says of a file, found by a reader that gives up by exception. */
final class FileModel {
    private static final class Stop extends RuntimeException {
        final int code;
        final int place;

        Stop(int code, int place) {
            this.code = code;
            this.place = place;
        }
    }

    /** The fault and its place: 0 and -1 without one. */
    int code = 0;
    int place = -1;
    /** The circuit, and its names behind kind and number ("0.3"), if there is no fault. */
    final Plan plan = new Plan();
    final Map<String, byte[]> names = new HashMap<>();

    private final byte[] file;
    private int at = 0;
    private int start;
    private int most;
    private final Set<Integer> defined = new HashSet<>();
    private final Map<Integer, int[]> operands = new HashMap<>();
    /** The variables that must be defined, with the places of their literals. */
    private final List<int[]> uses = new ArrayList<>();

    private FileModel(byte[] file) {
        this.file = file;
    }

    static FileModel of(byte[] file) {
        FileModel model = new FileModel(file);
        try {
            model.read();
        } catch (Stop stop) {
            model.code = stop.code;
            model.place = stop.place;
        }
        return model;
    }

    private int here() {
        return at < file.length ? file[at] & 255 : -1;
    }

    private void expect(String text) {
        for (char c : text.toCharArray()) {
            if (here() != c) {
                throw new Stop(1, at);
            }
            at++;
        }
    }

    private boolean digit() {
        return here() >= '0' && here() <= '9';
    }

    private int number() {
        start = at;
        String digits = "";
        while (digit()) {
            digits += (char) here();
            if (digits.length() == 5 || digits.length() == 2 && digits.startsWith("0")) {
                throw new Stop(1, at);
            }
            at++;
        }
        if (digits.isEmpty()) {
            throw new Stop(1, at);
        }
        return Integer.parseInt(digits);
    }

    private int literal() {
        int literal = number();
        if (literal > 2 * most + 1) {
            throw new Stop(3, start);
        }
        return literal;
    }

    private int used() {
        int literal = literal();
        uses.add(new int[] {literal / 2, start});
        return literal;
    }

    private int definition() {
        int literal = literal();
        if (literal % 2 == 1 || literal == 0 || !defined.add(literal / 2)) {
            throw new Stop(4, start);
        }
        return literal / 2;
    }

    private int delta() {
        start = at;
        int delta = 0;
        int weight = 1;
        while (true) {
            if (at == start + 3 || here() == -1) {
                throw new Stop(1, at);
            }
            int part = here();
            at++;
            delta += part % 128 * weight;
            weight *= 128;
            if (part < 128) {
                return delta;
            }
        }
    }

    private void read() {
        expect("a");
        boolean binary = here() == 'i';
        expect(binary ? "ig" : "ag");
        int[] sizes = new int[5];
        for (int k = 0; k < 5; k++) {
            expect(" ");
            sizes[k] = number();
        }
        expect("\n");
        int[] limits = {200, 5, 6, 8, 150};
        for (int k = 0; k < 5; k++) {
            if (sizes[k] > limits[k]) {
                throw new Stop(2, at);
            }
        }
        int sum = sizes[1] + sizes[2] + sizes[4];
        if (sizes[0] < sum || binary && sizes[0] > sum) {
            throw new Stop(2, at);
        }
        most = sizes[0];
        plan.variables = most;
        plan.inputs = new int[sizes[1]];
        plan.latches = new int[sizes[2]];
        plan.nexts = new int[sizes[2]];
        plan.outputs = new int[sizes[3]];
        plan.ands = new int[sizes[4]][];
        if (binary) {
            binaryBody(sizes);
        } else {
            textBody(sizes);
        }
        symbols(sizes);
        for (int[] use : uses) {
            if (use[0] != 0 && !defined.contains(use[0])) {
                throw new Stop(5, use[1]);
            }
        }
        for (int v = 1; v <= most; v++) {
            if (comesTo(v)) {
                throw new Stop(6, v);
            }
        }
    }

    private void textBody(int[] sizes) {
        for (int k = 0; k < sizes[1]; k++) {
            plan.inputs[k] = definition();
            expect("\n");
        }
        for (int k = 0; k < sizes[2]; k++) {
            plan.latches[k] = definition();
            expect(" ");
            plan.nexts[k] = used();
            expect("\n");
        }
        outputs();
        for (int k = 0; k < sizes[4]; k++) {
            int v = definition();
            expect(" ");
            int a = used();
            expect(" ");
            int b = used();
            expect("\n");
            operands.put(v, new int[] {a / 2, b / 2});
            plan.ands[k] = new int[] {v, a, b};
        }
    }

    private void outputs() {
        for (int k = 0; k < plan.outputs.length; k++) {
            plan.outputs[k] = used();
            expect("\n");
        }
    }

    private void binaryBody(int[] sizes) {
        for (int v = 1; v <= most; v++) {
            defined.add(v);
        }
        for (int k = 0; k < sizes[1]; k++) {
            plan.inputs[k] = 1 + k;
        }
        for (int k = 0; k < sizes[2]; k++) {
            plan.latches[k] = sizes[1] + 1 + k;
            plan.nexts[k] = used();
            expect("\n");
        }
        outputs();
        for (int k = 0; k < sizes[4]; k++) {
            int own = 2 * (sizes[1] + sizes[2] + 1 + k);
            int first = delta();
            if (first == 0 || first > own) {
                throw new Stop(3, start);
            }
            int second = delta();
            if (second > own - first) {
                throw new Stop(3, start);
            }
            plan.ands[k] = new int[] {own / 2, own - first, own - first - second};
        }
    }

    private void symbols(int[] sizes) {
        while (at < file.length) {
            int kind = "ilo".indexOf(here());
            if (here() == 'c') {
                expect("c\n");
                return;
            }
            if (kind < 0) {
                throw new Stop(1, at);
            }
            at++;
            int k = number();
            if (k >= sizes[1 + kind] || names.containsKey(kind + "." + k)) {
                throw new Stop(1, at);
            }
            expect(" ");
            int first = at;
            while (here() != '\n') {
                if (here() == -1 || at == first + 40) {
                    throw new Stop(1, at);
                }
                at++;
            }
            if (at == first) {
                throw new Stop(1, at);
            }
            names.put(kind + "." + k, Arrays.copyOfRange(file, first, at));
            at++;
        }
    }

    private boolean comesTo(int v) {
        Set<Integer> reached = new HashSet<>();
        ArrayDeque<Integer> left = new ArrayDeque<>();
        left.add(v);
        while (!left.isEmpty()) {
            int[] from = operands.getOrDefault(left.remove(), new int[0]);
            for (int next : from) {
                if (reached.add(next)) {
                    left.add(next);
                }
            }
        }
        return reached.contains(v);
    }
}
