import java.util.Arrays;

/**
 * Two clocked circuits, read from files of either form, and whether any inputs ever tell them
 * apart: the first way to do so, or that there is none; what pairs of states come up, and which
 * of their signals are always the same.
 */
public final class TwinJudge {
    public static final int NONE = -1;

    private static final int CIRCUITS = 2;
    private static final int MOST_READY = 20;
    private static final int MOST_TAPE = 6000;
    private static final int MOST_VARIABLES = 200;
    private static final int MOST_INPUTS = 5;
    private static final int MOST_LATCHES = 6;
    private static final int MOST_OUTPUTS = 8;
    private static final int MOST_ANDS = 150;
    private static final int MOST_NAMES = MOST_INPUTS + MOST_LATCHES + MOST_OUTPUTS;
    private static final int MOST_NAME_BYTES = 40;
    private static final int[] FIRST_NAMES = {0, MOST_INPUTS, MOST_INPUTS + MOST_LATCHES};
    private static final int MOST_USES = MOST_LATCHES + MOST_OUTPUTS + 2 * MOST_ANDS;
    private static final int MOST_WITNESS = 256;
    private static final int MOST_DIFFERS = 16;
    private static final int MOST_INDUCTIVE = 8;
    /** What twin() adds to the literals of circuit 1. */
    private static final int SECOND_TWINS = 1000;

    /** Room for the variables of a circuit, the constant (as variable 0) with them. */
    private static final int ROW = MOST_VARIABLES + 1;
    private static final int STATES = 1 << MOST_LATCHES;
    private static final int VECTORS = 1 << MOST_INPUTS;
    private static final int PAIRS = STATES * STATES;

    private static final int UNDEFINED = 0;
    private static final int INPUT = 1;
    private static final int LATCH = 2;
    private static final int AND = 3;

    private static final int SYNTAX = 1;
    private static final int BOUNDS = 2;
    private static final int TOO_HIGH = 3;
    private static final int NOT_DEFINING = 4;
    private static final int DEFINED_NOWHERE = 5;
    private static final int LOOP = 6;

    private static final int BLANK = 32;
    private static final int LINE_END = 10;
    private static final int MOST_DIGITS = 4;
    private static final int MOST_DELTA_BYTES = 3;

    /** Bit x of row k is what input k is in vector x: all vectors at once in one word. */
    private static final int[] ALL_VECTORS = {
        0xAAAAAAAA, 0xCCCCCCCC, 0xF0F0F0F0, 0xFF00FF00, 0xFFFF0000
    };

    private final Tape tape;
    private final Reader reader;
    private final Circuit[] circuits;
    private final Player player;
    /** Made by the first call that compares the circuits: an object that never does stays small. */
    private Works works;

    public TwinJudge() {
        tape = new Tape();
        reader = new Reader(tape);
        circuits = new Circuit[CIRCUITS];
        for (int c = 0; c < CIRCUITS; c++) {
            circuits[c] = new Circuit();
        }
        player = new Player(circuits);
    }

    public void feed(int a, int b, int c, int d, int e) {
        tape.prepare(0, a);
        tape.prepare(4, b);
        tape.prepare(8, c);
        tape.prepare(12, d);
        tape.prepare(16, e);
    }

    public int end(int n) {
        return tape.append(n);
    }

    public int load(int c) throws IllegalArgumentException {
        reader.forgetFault();
        boolean read = isCircuit(c) && reader.readFile();
        tape.length = 0;
        if (!read) {
            throw new IllegalArgumentException("no such circuit, or the file has a fault");
        }
        circuits[c] = reader.exchange(circuits[c]);
        player.rest();
        if (works != null) {
            works.forget();
        }
        return circuits[c].ands;
    }

    public int fault(int what) {
        switch (what) {
            case 0: return reader.code;
            case 1: return reader.place;
            default: return NONE;
        }
    }

    public int many(int c, int what) {
        return isThere(c) ? circuits[c].size(what) : NONE;
    }

    public int symbol(int c, int kind, int k, int i) {
        return isThere(c) ? circuits[c].nameByte(kind, k, i) : NONE;
    }

    public void reset() {
        player.rest();
    }

    public int state(int c) {
        return isThere(c) ? player.states[c] : NONE;
    }

    public int value(int c, int literal, int x) {
        return isLiteral(c, literal) ? player.look(c, literal, x) : NONE;
    }

    public int step(int x) {
        return player.play(x);
    }

    public int gates() throws IllegalStateException {
        mustMatch();
        return readyWorks().countGates();
    }

    public int judge() throws IllegalStateException {
        mustMatch();
        return exploredWorks().walk.length;
    }

    public int witness(int k) {
        if (k < 0 || k >= MOST_WITNESS || !matching()) {
            return NONE;
        }
        Walk walk = exploredWorks().walk;
        return k < walk.length ? walk.vectors[k] : NONE;
    }

    public int blame() {
        if (!matching()) {
            return NONE;
        }
        Walk walk = exploredWorks().walk;
        return walk.length <= MOST_WITNESS ? walk.blamed : NONE;
    }

    public int differs(int n) throws IllegalStateException, IllegalArgumentException {
        mustMatch();
        must(n >= 1 && n <= MOST_DIFFERS);
        int length = exploredWorks().walk.length;
        return length <= n ? length : 0;
    }

    public boolean inductive(int k) throws IllegalStateException, IllegalArgumentException {
        mustMatch();
        must(k >= 0 && k <= MOST_INDUCTIVE);
        return exploredWorks().holdsByInduction(k);
    }

    public int pairs(int what) throws IllegalStateException, IllegalArgumentException {
        mustMatch();
        must(what == 0 || what == 1);
        Walk walk = exploredWorks().walk;
        return what == 0 ? walk.count : walk.greatestDepth();
    }

    public int depth(int s, int t) throws IllegalStateException, IllegalArgumentException {
        mustMatch();
        must(circuits[0].isState(s) && circuits[1].isState(t));
        return exploredWorks().walk.depths[s * STATES + t];
    }

    public boolean same(int c, int literal, int d, int other)
            throws IllegalStateException, IllegalArgumentException {
        mustMatch();
        must(isLiteral(c, literal) && isLiteral(d, other));
        return exploredWorks().agree(c, literal, d, other);
    }

    public int twin(int c, int literal) throws IllegalStateException, IllegalArgumentException {
        mustMatch();
        must(isLiteral(c, literal));
        return exploredWorks().firstLike(c, literal);
    }

    public int doubts() {
        return works == null ? 0 : works.mistakes;
    }

    private static boolean isCircuit(int c) {
        return c >= 0 && c < CIRCUITS;
    }

    private boolean isThere(int c) {
        return isCircuit(c) && circuits[c].present;
    }

    private boolean isLiteral(int c, int literal) {
        return isThere(c) && circuits[c].isDefined(literal);
    }

    private boolean matching() {
        return circuits[0].present && circuits[1].present
            && circuits[0].inputs == circuits[1].inputs
            && circuits[0].outputs == circuits[1].outputs;
    }

    private void mustMatch() {
        if (!matching()) {
            throw new IllegalStateException("the circuits do not match");
        }
    }

    private static void must(boolean asItMustBe) {
        if (!asItMustBe) {
            throw new IllegalArgumentException("an argument is not as it must be");
        }
    }

    private Works readyWorks() {
        if (works == null) {
            works = new Works(circuits);
        }
        return works;
    }

    private Works exploredWorks() {
        Works ready = readyWorks();
        ready.explore();
        return ready;
    }

    /** The bytes that are ready, and those that have come. */
    private static final class Tape {
        private final byte[] ready = new byte[MOST_READY];
        private final byte[] bytes = new byte[MOST_TAPE];
        int length;

        void prepare(int from, int four) {
            for (int k = 0; k < 4; k++) {
                ready[from + k] = (byte) (four >> (24 - 8 * k));
            }
        }

        int append(int n) {
            if (n < 0 || n > MOST_READY || n > MOST_TAPE - length) {
                return NONE;
            }
            System.arraycopy(ready, 0, bytes, length, n);
            length += n;
            Arrays.fill(ready, (byte) 0);
            return length;
        }

        /** The byte at a place, 0 .. 255; NONE behind the end. */
        int at(int place) {
            return place >= 0 && place < length ? bytes[place] & 255 : NONE;
        }
    }

    /** A circuit, and what follows from its latches and inputs. */
    private static final class Circuit {
        boolean present;
        int variables;
        int inputs;
        int latches;
        int outputs;
        int ands;
        final byte[] kinds = new byte[ROW];
        final int[] left = new int[ROW];
        final int[] right = new int[ROW];
        final int[] inputVariables = new int[MOST_INPUTS];
        final int[] latchVariables = new int[MOST_LATCHES];
        final int[] nexts = new int[MOST_LATCHES];
        final int[] outputLiterals = new int[MOST_OUTPUTS];
        /** The variables of the ands, by ORDER. */
        final int[] order = new int[MOST_ANDS];
        final byte[] names = new byte[MOST_NAMES * MOST_NAME_BYTES];
        final int[] nameLengths = new int[MOST_NAMES];

        void clear() {
            Arrays.fill(kinds, (byte) UNDEFINED);
            Arrays.fill(nameLengths, 0);
        }

        int size(int what) {
            switch (what) {
                case 0: return variables;
                case 1: return inputs;
                case 2: return latches;
                case 3: return outputs;
                case 4: return ands;
                default: return NONE;
            }
        }

        boolean isDefined(int literal) {
            return literal >= 0 && literal <= 2 * variables + 1
                && (literal < 2 || kinds[literal >> 1] != UNDEFINED);
        }

        boolean isState(int bits) {
            return bits >= 0 && bits < 1 << latches;
        }

        /** Where input (kind 0), latch (1) or output (2) k has its name; NONE if there is no such. */
        int nameSlot(int kind, int k) {
            if (kind < 0 || kind > 2 || k < 0 || k >= size(kind + 1)) {
                return NONE;
            }
            return FIRST_NAMES[kind] + k;
        }

        int nameByte(int kind, int k, int i) {
            int slot = nameSlot(kind, k);
            if (slot == NONE || i < 0 || i >= nameLengths[slot]) {
                return NONE;
            }
            return names[slot * MOST_NAME_BYTES + i] & 255;
        }

        /**
         * Puts a word for every variable into a row, from base on. Each bit of the words is a
         * case of its own, with the inputs' bits there: so one pass settles up to 32 vectors.
         */
        void settle(int state, int[] inputWords, int[] row, int base) {
            row[base] = 0;
            for (int k = 0; k < inputs; k++) {
                row[base + inputVariables[k]] = inputWords[k];
            }
            for (int k = 0; k < latches; k++) {
                row[base + latchVariables[k]] = -((state >> k) & 1);
            }
            for (int k = 0; k < ands; k++) {
                int v = order[k];
                row[base + v] = word(row, base, left[v]) & word(row, base, right[v]);
            }
        }

        static int word(int[] row, int base, int literal) {
            return row[base + (literal >> 1)] ^ -(literal & 1);
        }
    }

    /** Reads the tape as a file; the fault that it met is kept until the next one is read. */
    private static final class Reader {
        private final Tape tape;
        private final Sorter sorter = new Sorter();
        /** The circuit that is read next: only a file without a fault takes another one's place. */
        private Circuit fresh = new Circuit();
        private final int[] header = new int[5];
        /** The literals, as they stand in the file, whose variables must be defined somewhere. */
        private final int[] uses = new int[MOST_USES];
        private final int[] usePlaces = new int[MOST_USES];
        private int useCount;
        private boolean binary;
        private int at;
        /** The latest number or delta, and its first byte. */
        private int number;
        private int start;
        int code;
        int place = NONE;

        Reader(Tape tape) {
            this.tape = tape;
        }

        void forgetFault() {
            code = 0;
            place = NONE;
        }

        /** Hands out the circuit that was read, and takes an old one to be written over. */
        Circuit exchange(Circuit old) {
            Circuit read = fresh;
            fresh = old;
            return read;
        }

        boolean readFile() {
            at = 0;
            useCount = 0;
            fresh.clear();
            boolean read = readHeader() && keepSizes()
                && (binary ? defineInOrder() : readInputs())
                && readLatches() && readOutputs()
                && (binary ? readDeltas() : readAnds())
                && readSymbols() && findUndefined() && sortAnds();
            fresh.present = read;
            return read;
        }

        private boolean fail(int newCode, int newPlace) {
            code = newCode;
            place = newPlace;
            return false;
        }

        private boolean pass(int wanted) {
            if (tape.at(at) != wanted) {
                return fail(SYNTAX, at);
            }
            at++;
            return true;
        }

        private static boolean isDigit(int next) {
            return next >= '0' && next <= '9';
        }

        private boolean readNumber() {
            start = at;
            number = 0;
            int next = tape.at(at);
            if (!isDigit(next)) {
                return fail(SYNTAX, at);
            }
            for (int n = 0; n < MOST_DIGITS && isDigit(next) && (n == 0 || number > 0); n++) {
                number = 10 * number + next - '0';
                at++;
                next = tape.at(at);
            }
            return !isDigit(next) || fail(SYNTAX, at);
        }

        private boolean readDelta() {
            start = at;
            number = 0;
            for (int n = 0; n < MOST_DELTA_BYTES; n++) {
                int next = tape.at(at);
                if (next == NONE) {
                    return fail(SYNTAX, at);
                }
                at++;
                number |= (next & 127) << (7 * n);
                if (next < 128) {
                    return true;
                }
            }
            return fail(SYNTAX, at);
        }

        private boolean readHeader() {
            if (!pass('a')) {
                return false;
            }
            binary = tape.at(at) == 'i';
            if (!pass(binary ? 'i' : 'a') || !pass('g')) {
                return false;
            }
            for (int k = 0; k < header.length; k++) {
                if (!pass(BLANK) || !readNumber()) {
                    return false;
                }
                header[k] = number;
            }
            return pass(LINE_END);
        }

        private boolean keepSizes() {
            int needed = header[1] + header[2] + header[4];
            boolean fits = header[0] <= MOST_VARIABLES && header[1] <= MOST_INPUTS
                && header[2] <= MOST_LATCHES && header[3] <= MOST_OUTPUTS
                && header[4] <= MOST_ANDS
                && (binary ? header[0] == needed : header[0] >= needed);
            if (!fits) {
                return fail(BOUNDS, at);
            }
            fresh.variables = header[0];
            fresh.inputs = header[1];
            fresh.latches = header[2];
            fresh.outputs = header[3];
            fresh.ands = header[4];
            return true;
        }

        private boolean isInRange() {
            return number <= 2 * fresh.variables + 1 || fail(TOO_HIGH, start);
        }

        private boolean readUse() {
            if (!readNumber() || !isInRange()) {
                return false;
            }
            uses[useCount] = number;
            usePlaces[useCount] = start;
            useCount++;
            return true;
        }

        /** Reads the literal that a line defines; its variable is number / 2 then. */
        private boolean readDefinition(int kind) {
            if (!readNumber() || !isInRange()) {
                return false;
            }
            if (number < 2 || (number & 1) == 1 || fresh.kinds[number >> 1] != UNDEFINED) {
                return fail(NOT_DEFINING, start);
            }
            fresh.kinds[number >> 1] = (byte) kind;
            return true;
        }

        /** A binary file's variables: the inputs, the latches, the ands. */
        private boolean defineInOrder() {
            int firstLatch = 1 + fresh.inputs;
            int firstAnd = firstLatch + fresh.latches;
            for (int k = 0; k < fresh.inputs; k++) {
                fresh.kinds[1 + k] = INPUT;
                fresh.inputVariables[k] = 1 + k;
            }
            for (int k = 0; k < fresh.latches; k++) {
                fresh.kinds[firstLatch + k] = LATCH;
                fresh.latchVariables[k] = firstLatch + k;
            }
            for (int k = 0; k < fresh.ands; k++) {
                fresh.kinds[firstAnd + k] = AND;
                sorter.byFile[k] = firstAnd + k;
            }
            return true;
        }

        private boolean readInputs() {
            for (int k = 0; k < fresh.inputs; k++) {
                if (!readDefinition(INPUT)) {
                    return false;
                }
                fresh.inputVariables[k] = number >> 1;
                if (!pass(LINE_END)) {
                    return false;
                }
            }
            return true;
        }

        private boolean readLatches() {
            for (int k = 0; k < fresh.latches; k++) {
                if (!binary && !readLatchVariable(k) || !readNext(k)) {
                    return false;
                }
            }
            return true;
        }

        private boolean readLatchVariable(int k) {
            if (!readDefinition(LATCH)) {
                return false;
            }
            fresh.latchVariables[k] = number >> 1;
            return pass(BLANK);
        }

        private boolean readNext(int k) {
            if (!readUse()) {
                return false;
            }
            fresh.nexts[k] = number;
            return pass(LINE_END);
        }

        private boolean readOutputs() {
            for (int k = 0; k < fresh.outputs; k++) {
                if (!readUse()) {
                    return false;
                }
                fresh.outputLiterals[k] = number;
                if (!pass(LINE_END)) {
                    return false;
                }
            }
            return true;
        }

        private boolean readAnds() {
            for (int k = 0; k < fresh.ands; k++) {
                if (!readDefinition(AND)) {
                    return false;
                }
                int v = number >> 1;
                sorter.byFile[k] = v;
                if (!pass(BLANK) || !readUse()) {
                    return false;
                }
                fresh.left[v] = number;
                if (!pass(BLANK) || !readUse()) {
                    return false;
                }
                fresh.right[v] = number;
                if (!pass(LINE_END)) {
                    return false;
                }
            }
            return true;
        }

        /** All variables of a binary file are defined: its operands need no second look. */
        private boolean readDeltas() {
            for (int k = 0; k < fresh.ands; k++) {
                int v = sorter.byFile[k];
                if (!readDelta()) {
                    return false;
                }
                if (number == 0 || number > 2 * v) {
                    return fail(TOO_HIGH, start);
                }
                fresh.left[v] = 2 * v - number;
                if (!readDelta()) {
                    return false;
                }
                if (number > fresh.left[v]) {
                    return fail(TOO_HIGH, start);
                }
                fresh.right[v] = fresh.left[v] - number;
            }
            return true;
        }

        private boolean readSymbols() {
            for (int n = 0; n < MOST_TAPE && at < tape.length; n++) {
                if (tape.at(at) == 'c') {
                    at++;
                    return pass(LINE_END);
                }
                if (!readSymbol()) {
                    return false;
                }
            }
            return true;
        }

        private static int kindOf(int letter) {
            switch (letter) {
                case 'i': return 0;
                case 'l': return 1;
                case 'o': return 2;
                default: return NONE;
            }
        }

        private boolean readSymbol() {
            int kind = kindOf(tape.at(at));
            if (kind == NONE) {
                return fail(SYNTAX, at);
            }
            at++;
            if (!readNumber()) {
                return false;
            }
            int slot = fresh.nameSlot(kind, number);
            if (slot == NONE || fresh.nameLengths[slot] > 0) {
                return fail(SYNTAX, at);
            }
            return pass(BLANK) && readName(slot);
        }

        private boolean readName(int slot) {
            int length = 0;
            for (; length < MOST_NAME_BYTES; length++) {
                int next = tape.at(at);
                if (next == NONE || next == LINE_END) {
                    break;
                }
                fresh.names[slot * MOST_NAME_BYTES + length] = (byte) next;
                at++;
            }
            fresh.nameLengths[slot] = length;
            return length > 0 ? pass(LINE_END) : fail(SYNTAX, at);
        }

        private boolean findUndefined() {
            for (int k = 0; k < useCount; k++) {
                if (!fresh.isDefined(uses[k])) {
                    return fail(DEFINED_NOWHERE, usePlaces[k]);
                }
            }
            return true;
        }

        private boolean sortAnds() {
            return sorter.sort(fresh) || fail(LOOP, sorter.lowestInLoop(fresh));
        }
    }

    /** Brings the ands of a circuit into ORDER, or finds the lowest that hangs on itself. */
    private static final class Sorter {
        /** The variables of the ands as they stand in the file. */
        final int[] byFile = new int[MOST_ANDS];
        private final boolean[] come = new boolean[ROW];
        private final boolean[] seen = new boolean[ROW];
        private final int[] reached = new int[ROW];
        private int reachedCount;

        boolean sort(Circuit circuit) {
            for (int v = 0; v < ROW; v++) {
                come[v] = circuit.kinds[v] != AND;
            }
            for (int n = 0; n < circuit.ands; n++) {
                int k = firstReady(circuit);
                if (k == NONE) {
                    return false;
                }
                circuit.order[n] = byFile[k];
                come[byFile[k]] = true;
            }
            return true;
        }

        private int firstReady(Circuit circuit) {
            for (int k = 0; k < circuit.ands; k++) {
                int v = byFile[k];
                if (!come[v] && come[circuit.left[v] >> 1] && come[circuit.right[v] >> 1]) {
                    return k;
                }
            }
            return NONE;
        }

        int lowestInLoop(Circuit circuit) {
            for (int v = 1; v <= circuit.variables; v++) {
                if (!come[v] && comesBack(circuit, v)) {
                    return v;
                }
            }
            return NONE;
        }

        private boolean comesBack(Circuit circuit, int from) {
            for (int v = 0; v < ROW; v++) {
                seen[v] = false;
            }
            reachedCount = 0;
            reachOperands(circuit, from);
            for (int i = 0; i < reachedCount && i < ROW; i++) {
                reachOperands(circuit, reached[i]);
            }
            return seen[from];
        }

        private void reachOperands(Circuit circuit, int v) {
            if (circuit.kinds[v] == AND) {
                reach(circuit.left[v] >> 1);
                reach(circuit.right[v] >> 1);
            }
        }

        private void reach(int v) {
            if (!seen[v]) {
                seen[v] = true;
                reached[reachedCount] = v;
                reachedCount++;
            }
        }
    }

    /** The latches of both circuits, moved by one vector at a time. */
    private static final class Player {
        private final Circuit[] circuits;
        final int[] states = new int[CIRCUITS];
        private final int[] inputWords = new int[MOST_INPUTS];
        private final int[] row = new int[ROW];

        Player(Circuit[] circuits) {
            this.circuits = circuits;
        }

        void rest() {
            Arrays.fill(states, 0);
        }

        int look(int c, int literal, int x) {
            takeVector(x);
            circuits[c].settle(states[c], inputWords, row, 0);
            return Circuit.word(row, 0, literal) & 1;
        }

        /** The outputs of circuit 0, and 256 times those of circuit 1; the latches move on. */
        int play(int x) {
            takeVector(x);
            int outputs = 0;
            for (int c = 0; c < CIRCUITS; c++) {
                if (circuits[c].present) {
                    circuits[c].settle(states[c], inputWords, row, 0);
                    outputs |= gather(circuits[c].outputLiterals, circuits[c].outputs) << (8 * c);
                    states[c] = gather(circuits[c].nexts, circuits[c].latches);
                }
            }
            return outputs;
        }

        private void takeVector(int x) {
            for (int k = 0; k < MOST_INPUTS; k++) {
                inputWords[k] = -((x >> k) & 1);
            }
        }

        private int gather(int[] literals, int count) {
            int bits = 0;
            for (int k = 0; k < count; k++) {
                bits |= (Circuit.word(row, 0, literals[k]) & 1) << k;
            }
            return bits;
        }
    }

    /**
     * What both circuits do in each of their states, by each vector. A word has bit x for vector
     * x; with fewer than five inputs the bits behind the last vector repeat those ahead, so that
     * words can be compared whole.
     */
    private static final class Table {
        /** A line for each state of circuit 0, then of circuit 1: the words of its variables. */
        private final int[] words = new int[CIRCUITS * STATES * ROW];
        private final int[] outputWords = new int[CIRCUITS * STATES * MOST_OUTPUTS];
        private final int[] nexts = new int[CIRCUITS * STATES * VECTORS];
        private final int[] states = new int[CIRCUITS];
        private int outputs;
        int vectors;

        void fill(Circuit[] circuits) {
            vectors = 1 << circuits[0].inputs;
            outputs = circuits[0].outputs;
            Arrays.fill(nexts, 0);
            for (int c = 0; c < CIRCUITS; c++) {
                states[c] = 1 << circuits[c].latches;
                for (int s = 0; s < states[c]; s++) {
                    fillLine(circuits[c], c * STATES + s, s);
                }
            }
        }

        private void fillLine(Circuit circuit, int line, int s) {
            circuit.settle(s, ALL_VECTORS, words, line * ROW);
            for (int k = 0; k < outputs; k++) {
                outputWords[line * MOST_OUTPUTS + k] =
                    Circuit.word(words, line * ROW, circuit.outputLiterals[k]);
            }
            for (int k = 0; k < circuit.latches; k++) {
                int word = Circuit.word(words, line * ROW, circuit.nexts[k]);
                for (int x = 0; x < vectors; x++) {
                    nexts[line * VECTORS + x] |= ((word >> x) & 1) << k;
                }
            }
        }

        boolean isPair(int pair) {
            return pair / STATES < states[0] && pair % STATES < states[1];
        }

        int next(int pair, int x) {
            int first = pair / STATES;
            int second = STATES + pair % STATES;
            return nexts[first * VECTORS + x] * STATES + nexts[second * VECTORS + x];
        }

        /** The vectors by which output k is not as the other circuit's. */
        int unlike(int pair, int k) {
            int first = pair / STATES;
            int second = STATES + pair % STATES;
            return outputWords[first * MOST_OUTPUTS + k] ^ outputWords[second * MOST_OUTPUTS + k];
        }

        /** The vectors by which the pair tells. */
        int telling(int pair) {
            int telling = 0;
            for (int k = 0; k < outputs; k++) {
                telling |= unlike(pair, k);
            }
            return telling;
        }

        /** The lowest output that tells, by a vector that does. */
        int lowestUnlike(int pair, int x) {
            int k = 0;
            while (k < outputs - 1 && ((unlike(pair, k) >> x) & 1) == 0) {
                k++;
            }
            return k;
        }

        int word(int pair, int c, int literal) {
            int line = c == 0 ? pair / STATES : STATES + pair % STATES;
            return Circuit.word(words, line * ROW, literal);
        }
    }

    /** The pairs that come up, and the WITNESS. */
    private static final class Walk {
        private final Table table;
        /** The pairs in the order of the first row of vectors, among the shortest, that leads there. */
        final int[] queue = new int[PAIRS];
        final int[] depths = new int[PAIRS];
        /** The pair ahead, times VECTORS, and the vector that leads from it. */
        private final int[] arrivals = new int[PAIRS];
        final int[] vectors = new int[PAIRS];
        int count;
        int length;
        int blamed;

        Walk(Table table) {
            this.table = table;
        }

        void explore() {
            Arrays.fill(depths, NONE);
            depths[0] = 0;
            queue[0] = 0;
            count = 1;
            length = 0;
            blamed = NONE;
            for (int i = 0; i < count && i < PAIRS; i++) {
                // The queue's order makes the first one that tells the end of the WITNESS.
                if (length == 0) {
                    tryToTell(queue[i]);
                }
                expand(queue[i]);
            }
        }

        private void expand(int pair) {
            for (int x = 0; x < table.vectors; x++) {
                int next = table.next(pair, x);
                if (depths[next] == NONE) {
                    depths[next] = depths[pair] + 1;
                    arrivals[next] = pair * VECTORS + x;
                    queue[count] = next;
                    count++;
                }
            }
        }

        private void tryToTell(int pair) {
            int telling = table.telling(pair);
            if (telling != 0) {
                int x = Integer.numberOfTrailingZeros(telling);
                blamed = table.lowestUnlike(pair, x);
                length = depths[pair] + 1;
                vectors[length - 1] = x;
                traceBack(pair);
            }
        }

        private void traceBack(int last) {
            int pair = last;
            for (int n = depths[last]; n > 0; n--) {
                vectors[n - 1] = arrivals[pair] % VECTORS;
                pair = arrivals[pair] / VECTORS;
            }
        }

        int greatestDepth() {
            return depths[queue[count - 1]];
        }
    }

    /**
     * Layer j: the pairs, whether they come up or not, from which j vectors that do not tell and
     * one more that tells can follow. INDUCTIVE for k means that layer k is empty; and the LENGTH
     * is one more than the number of the first layer that has RESET.
     */
    private static final class Layers {
        private final Table table;
        private boolean[] latest = new boolean[PAIRS];
        private boolean[] spare = new boolean[PAIRS];
        private int known;
        private int firstEmpty;
        private int firstWithReset;
        /** All layers behind the latest one are as it is. */
        private boolean isSteady;

        Layers(Table table) {
            this.table = table;
        }

        void clear() {
            known = 0;
            firstEmpty = NONE;
            firstWithReset = NONE;
            isSteady = false;
        }

        boolean isEmpty(int layer) {
            while (known <= layer && !isSteady) {
                addLayer();
                known++;
            }
            return firstEmpty != NONE && firstEmpty <= layer;
        }

        /** Whether a LENGTH, found in another way, fits the layers that are known. */
        boolean fits(int length) {
            int due = length >= 1 && length <= known ? length - 1 : NONE;
            return firstWithReset == due;
        }

        private void addLayer() {
            boolean empty = true;
            boolean changed = known == 0;
            for (int pair = 0; pair < PAIRS; pair++) {
                spare[pair] = table.isPair(pair) && isInLayer(pair);
                empty = empty && !spare[pair];
                changed = changed || spare[pair] != latest[pair];
            }
            boolean[] added = spare;
            spare = latest;
            latest = added;
            isSteady = empty || !changed;
            if (empty) {
                firstEmpty = known;
            }
            if (latest[0] && firstWithReset == NONE) {
                firstWithReset = known;
            }
        }

        private boolean isInLayer(int pair) {
            int telling = table.telling(pair);
            if (known == 0) {
                return telling != 0;
            }
            for (int x = 0; x < table.vectors; x++) {
                if (((telling >> x) & 1) == 0 && latest[table.next(pair, x)]) {
                    return true;
                }
            }
            return false;
        }
    }

    /**
     * The variables of both circuits in classes: those of a class are always the same, or always
     * the negation of one another. A variable's SPOT is c * ROW + v; the constant has spot 0. A
     * class's leader is its lowest spot.
     */
    private static final class Likeness {
        private static final int SPOTS = CIRCUITS * ROW;
        private final int[] leaders = new int[SPOTS];
        /** -1 if the variable is 1 at RESET by vector 0: then its negation is looked at. */
        private final int[] flips = new int[SPOTS];
        private final int[] words = new int[SPOTS];
        /** Behind a leader, the one that this pair has split off its class next. */
        private final int[] splits = new int[SPOTS];
        private final int[] sizes = new int[SPOTS];
        /** The spots, from the lowest on, that are not alone in their class. */
        private final int[] open = new int[SPOTS];
        private int openCount;

        void sort(Circuit[] circuits, Table table, Walk walk) {
            openCount = 0;
            for (int spot = 0; spot < SPOTS; spot++) {
                leaders[spot] = 0;
                flips[spot] = 0;
                if (circuits[spot / ROW].isDefined(2 * (spot % ROW))) {
                    flips[spot] = -(table.word(0, spot / ROW, 2 * (spot % ROW)) & 1);
                    open[openCount] = spot;
                    openCount++;
                }
            }
            for (int i = 0; i < walk.count; i++) {
                if (isSplitBy(table, walk.queue[i])) {
                    leaveLone();
                }
            }
        }

        private boolean isSplitBy(Table table, int pair) {
            boolean split = false;
            for (int i = 0; i < openCount; i++) {
                int spot = open[i];
                int before = leaders[spot];
                words[spot] = table.word(pair, spot / ROW, 2 * (spot % ROW)) ^ flips[spot];
                findLeader(spot);
                split = split || leaders[spot] != before;
            }
            return split;
        }

        /** The leader, and those that were split off it, are lower: their words are there. */
        private void findLeader(int spot) {
            splits[spot] = NONE;
            int leader = leaders[spot];
            int last = leader;
            for (int n = 0; n < SPOTS && leader != NONE && words[leader] != words[spot]; n++) {
                last = leader;
                leader = splits[leader];
            }
            if (leader == NONE) {
                splits[last] = spot;
                leader = spot;
            }
            leaders[spot] = leader;
        }

        private void leaveLone() {
            Arrays.fill(sizes, 0);
            for (int i = 0; i < openCount; i++) {
                sizes[leaders[open[i]]]++;
            }
            int kept = 0;
            for (int i = 0; i < openCount; i++) {
                if (sizes[leaders[open[i]]] > 1) {
                    open[kept] = open[i];
                    kept++;
                }
            }
            openCount = kept;
        }

        /** The first literal of the class that is the same, as twin() tells it. */
        int firstLike(int c, int literal) {
            int spot = c * ROW + (literal >> 1);
            int leader = leaders[spot];
            int sign = (literal ^ flips[spot] ^ flips[leader]) & 1;
            return leader < ROW ? 2 * leader + sign : SECOND_TWINS + 2 * (leader - ROW) + sign;
        }
    }

    /** Both circuits laid over one another: a signal is 2 * its number, and 1 more if negated. */
    private static final class Overlay {
        private static final int FIRST_LATCH = 1 + MOST_INPUTS;
        private static final int FIRST_GATE = FIRST_LATCH + CIRCUITS * MOST_LATCHES;
        private final int[] lower = new int[CIRCUITS * MOST_ANDS];
        private final int[] upper = new int[CIRCUITS * MOST_ANDS];
        private final int[] signals = new int[ROW];
        int count;

        void build(Circuit[] circuits) {
            count = 0;
            for (int c = 0; c < CIRCUITS; c++) {
                layOver(circuits[c], FIRST_LATCH + c * MOST_LATCHES);
            }
        }

        private void layOver(Circuit circuit, int firstLatch) {
            signals[0] = 0;
            for (int k = 0; k < circuit.inputs; k++) {
                signals[circuit.inputVariables[k]] = 2 * (1 + k);
            }
            for (int k = 0; k < circuit.latches; k++) {
                signals[circuit.latchVariables[k]] = 2 * (firstLatch + k);
            }
            for (int k = 0; k < circuit.ands; k++) {
                int v = circuit.order[k];
                signals[v] = join(signalOf(circuit.left[v]), signalOf(circuit.right[v]));
            }
        }

        private int signalOf(int literal) {
            return signals[literal >> 1] ^ (literal & 1);
        }

        private int join(int a, int b) {
            if (a == 0 || b == 0 || a == (b ^ 1)) {
                return 0;
            }
            if (a == 1 || a == b) {
                return b;
            }
            return b == 1 ? a : gateOf(Math.min(a, b), Math.max(a, b));
        }

        private int gateOf(int a, int b) {
            int k = 0;
            while (k < count && (lower[k] != a || upper[k] != b)) {
                k++;
            }
            if (k == count) {
                lower[k] = a;
                upper[k] = b;
                count++;
            }
            return 2 * (FIRST_GATE + k);
        }
    }

    /** All that compares the circuits, found out when it is asked for and kept until a load. */
    private static final class Works {
        private final Circuit[] circuits;
        private final Player player;
        private final Table table = new Table();
        final Walk walk = new Walk(table);
        private final Layers layers = new Layers(table);
        private final Likeness likeness = new Likeness();
        private final Overlay overlay = new Overlay();
        private boolean isExplored;
        private boolean isSorted;
        private boolean isLaidOver;
        int mistakes;

        Works(Circuit[] circuits) {
            this.circuits = circuits;
            player = new Player(circuits);
        }

        void forget() {
            isExplored = false;
            isSorted = false;
            isLaidOver = false;
        }

        private void doubtUnless(boolean right) {
            if (!right) {
                mistakes++;
            }
        }

        void explore() {
            if (!isExplored) {
                table.fill(circuits);
                walk.explore();
                layers.clear();
                isExplored = true;
                doubtUnless(witnessTells());
            }
        }

        /** Plays the WITNESS again: its last vector tells, and none ahead. */
        private boolean witnessTells() {
            player.rest();
            for (int k = 0; k < walk.length; k++) {
                int outputs = player.play(walk.vectors[k]);
                boolean tells = (outputs & 255) != outputs >> 8;
                if (tells != (k == walk.length - 1)) {
                    return false;
                }
            }
            return true;
        }

        boolean holdsByInduction(int k) {
            boolean holds = layers.isEmpty(k);
            doubtUnless(layers.fits(walk.length));
            // A WITNESS of more than k vectors ends in what INDUCTIVE for k rules out.
            doubtUnless(!holds || walk.length <= k);
            return holds;
        }

        boolean agree(int c, int literal, int d, int other) {
            for (int i = 0; i < walk.count; i++) {
                int pair = walk.queue[i];
                if (table.word(pair, c, literal) != table.word(pair, d, other)) {
                    return false;
                }
            }
            return true;
        }

        int firstLike(int c, int literal) {
            if (!isSorted) {
                likeness.sort(circuits, table, walk);
                isSorted = true;
            }
            int like = likeness.firstLike(c, literal);
            boolean inSecond = like >= SECOND_TWINS;
            doubtUnless(agree(c, literal, inSecond ? 1 : 0, inSecond ? like - SECOND_TWINS : like));
            return like;
        }

        int countGates() {
            if (!isLaidOver) {
                overlay.build(circuits);
                isLaidOver = true;
            }
            return overlay.count;
        }
    }
}
