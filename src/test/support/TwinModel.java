import java.util.ArrayList;
import java.util.List;

/** The document's object in the plainest way: the same calls, answered by FileModel and Model. */
final class TwinModel {
    private byte[] ready = new byte[20];
    private final List<Byte> tape = new ArrayList<>();
    /** The files of the circuits; null while there is none. */
    private final FileModel[] files = new FileModel[2];
    private final int[] states = new int[2];
    private int faultCode = 0;
    private int faultPlace = -1;
    /** Of the circuits as they are; null until it is asked for. */
    private Model model;

    void feed(int... words) {
        for (int k = 0; k < 20; k++) {
            ready[k] = (byte) (words[k / 4] >>> (3 - k % 4) * 8);
        }
    }

    int end(int n) {
        if (n < 0 || n > 20 || tape.size() + n > 6000) {
            return -1;
        }
        for (int k = 0; k < n; k++) {
            tape.add(ready[k]);
        }
        ready = new byte[20];
        return tape.size();
    }

    int load(int c) {
        byte[] file = new byte[tape.size()];
        for (int k = 0; k < file.length; k++) {
            file[k] = tape.get(k);
        }
        tape.clear();
        faultCode = 0;
        faultPlace = -1;
        must(c == 0 || c == 1);
        FileModel read = FileModel.of(file);
        faultCode = read.code;
        faultPlace = read.place;
        must(read.code == 0);
        files[c] = read;
        model = null;
        reset();
        return read.plan.ands.length;
    }

    int fault(int what) {
        return what == 0 ? faultCode : what == 1 ? faultPlace : -1;
    }

    private boolean isThere(int c) {
        return (c == 0 || c == 1) && files[c] != null;
    }

    private static int[] sizes(Plan plan) {
        return new int[] {
            plan.variables, plan.inputs.length, plan.latches.length, plan.outputs.length, plan.ands.length
        };
    }

    int many(int c, int what) {
        return isThere(c) && what >= 0 && what <= 4 ? sizes(files[c].plan)[what] : -1;
    }

    int symbol(int c, int kind, int k, int i) {
        byte[] name = isThere(c) ? files[c].names.get(kind + "." + k) : null;
        return name != null && i >= 0 && i < name.length ? name[i] & 255 : -1;
    }

    void reset() {
        states[0] = 0;
        states[1] = 0;
    }

    int state(int c) {
        return isThere(c) ? states[c] : -1;
    }

    int value(int c, int literal, int x) {
        if (!isThere(c) || literal < 0 || literal > 2 * files[c].plan.variables + 1) {
            return -1;
        }
        return Model.read(Model.settle(files[c].plan, states[c], x), literal);
    }

    int step(int x) {
        int outputs = 0;
        for (int c = 0; c < 2; c++) {
            if (isThere(c)) {
                int[] values = Model.settle(files[c].plan, states[c], x);
                outputs += Model.gather(values, files[c].plan.outputs) << 8 * c;
                states[c] = Model.gather(values, files[c].plan.nexts);
            }
        }
        return outputs;
    }

    private boolean matching() {
        return isThere(0) && isThere(1) && many(0, 1) == many(1, 1) && many(0, 3) == many(1, 3);
    }

    private static void must(boolean right) {
        if (!right) {
            throw new IllegalArgumentException();
        }
    }

    private Model model() {
        if (!matching()) {
            throw new IllegalStateException();
        }
        if (model == null) {
            model = new Model(files[0].plan, files[1].plan);
        }
        return model;
    }

    int gates() {
        return model().gates();
    }

    int judge() {
        return model().length();
    }

    int witness(int k) {
        return k >= 0 && k <= 255 && matching() && k < model().length() ? model().witness.get(k) : -1;
    }

    int blame() {
        return matching() && model().length() <= 256 ? model().blame : -1;
    }

    int differs(int n) {
        Model both = model();
        must(n >= 1 && n <= 16);
        return both.length() <= n ? both.length() : 0;
    }

    boolean inductive(int k) {
        Model both = model();
        must(k >= 0 && k <= 8);
        return both.inductive(k);
    }

    int pairs(int what) {
        Model both = model();
        must(what == 0 || what == 1);
        return what == 0 ? both.depths.size() : both.greatestDepth();
    }

    int depth(int s, int t) {
        Model both = model();
        must(s >>> many(0, 2) == 0 && t >>> many(1, 2) == 0);
        return both.depths.getOrDefault(s + 64 * t, -1);
    }

    boolean same(int c, int literal, int d, int other) {
        Model both = model();
        must(isThere(c) && isThere(d) && both.isLiteral(c, literal) && both.isLiteral(d, other));
        return both.history(c, literal).equals(both.history(d, other));
    }

    int twin(int c, int literal) {
        Model both = model();
        must(isThere(c) && both.isLiteral(c, literal));
        return both.twins()[c][literal];
    }
}
