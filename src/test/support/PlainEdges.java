/** The sentences of promises 1 to 11: the tape, the loading, the reading out and the playing. */
final class PlainEdges {
    /** Input 2, latch 4 that takes it, output 4. */
    private static final String DELAY = "aag 2 1 1 1 0\n2\n4 2\n4\n";
    /** Six latches that become 1, one behind the other. */
    private static final String FILL = "aag 7 1 6 1 0\n14\n2 1\n4 2\n6 4\n8 6\n10 8\n12 10\n12\n";
    private static final int[] FAR = {Integer.MIN_VALUE, Integer.MIN_VALUE + 1, -1000, -256, -2, -1, 256, 1000,
        65536, 1 << 30, Integer.MAX_VALUE - 1, Integer.MAX_VALUE};

    private final Sentence sentence;

    PlainEdges(Sentence sentence) {
        this.sentence = sentence;
    }

    void all() {
        newObject();
        feed();
        end();
        load();
        loadRefused();
        fault();
        many();
        symbol();
        reset();
        state();
        value();
        step();
    }

    private void newObject() {
        sentence.holds("Promise 1", "The tape is empty,", () -> {
            Check.due("end(0)", new TwinJudge().end(0), 0);
            Check.due("end(1)", new TwinJudge().end(1), 1);
            Check.due("end(20)", new TwinJudge().end(20), 20);
            TwinJudge x = new TwinJudge();
            Check.throwing("load(0)", () -> x.load(0), Check.ARGUMENT);
            Check.due("fault(0)", x.fault(0), 1);
            Check.due("fault(1)", x.fault(1), 0);
        });
        sentence.holds("Promise 1", "there are no circuits.", () -> {
            TwinJudge x = new TwinJudge();
            for (int c = 0; c < 2; c++) {
                Check.due("many(" + c + ", 0)", x.many(c, 0), -1);
                Check.due("state(" + c + ")", x.state(c), -1);
                Check.due("value(" + c + ", 1, 0)", x.value(c, 1, 0), -1);
                Check.due("symbol(" + c + ", 0, 0, 0)", x.symbol(c, 0, 0, 0), -1);
            }
            Check.due("step(0)", x.step(0), 0);
            Check.throwing("judge()", x::judge, Check.STATE);
            // One object's circuits are not another one's.
            Check.both(DELAY, DELAY).step(1);
            Check.due("many(0, 0) of a new one beside another", new TwinJudge().many(0, 0), -1);
        });
    }

    /** The name of input 0, of the bytes that come next. */
    private static TwinJudge naming() {
        TwinJudge x = new TwinJudge();
        Check.put(x, Check.bytes("aag 1 1 0 0 0\n2\ni0 "));
        return x;
    }

    private static void dueName(TwinJudge x, int... bytes) {
        x.feed(10 << 24, 0, 0, 0, 0);
        x.end(1);
        Check.due("load(0)", x.load(0), 0);
        for (int i = 0; i < bytes.length; i++) {
            Check.due("symbol(0, 0, 0, " + i + ")", x.symbol(0, 0, 0, i), bytes[i]);
        }
        Check.due("symbol(0, 0, 0, " + bytes.length + ")", x.symbol(0, 0, 0, bytes.length), -1);
    }

    private void feed() {
        sentence.holds("Promise 2", "Puts twenty bytes ready, those of a first, the highest of each first.", () -> {
            TwinJudge x = naming();
            x.feed(0x80FF7F01, 0xFF000102, 0x7FFFFFFF, 0x80000000, -1);
            Check.due("end(20)", x.end(20), 39);
            dueName(x, 128, 255, 127, 1, 255, 0, 1, 2, 127, 255, 255, 255, 128, 0, 0, 0, 255, 255, 255, 255);
            // A later feed() takes the place of what was ready, whole.
            TwinJudge y = naming();
            y.feed(-1, -1, -1, -1, -1);
            y.feed(0x01020304, 0x05060708, 0x090B0C0D, 0x0E0F1011, 0x12131415);
            y.end(20);
            dueName(y, 1, 2, 3, 4, 5, 6, 7, 8, 9, 11, 12, 13, 14, 15, 16, 17, 18, 19, 20, 21);
            TwinJudge z = naming();
            z.feed(-1, -1, -1, -1, -1);
            z.feed(0, 0, 0, 0, 0x01000000);
            z.end(17);
            dueName(z, 0, 0, 0, 0, 0, 0, 0, 0, 0, 0, 0, 0, 0, 0, 0, 0, 1);
            // Nothing comes to the tape by feed() alone.
            TwinJudge w = new TwinJudge();
            w.feed(1, 2, 3, 4, 5);
            Check.due("end(0)", w.end(0), 0);
        });
        sentence.holds("Promise 2", "(They are 0 at first,", () -> {
            TwinJudge x = new TwinJudge();
            x.end(20);
            Check.throwing("load(0)", () -> x.load(0), Check.ARGUMENT);
            Check.due("fault(1)", x.fault(1), 0);
            // All twenty, as name bytes: nothing but zeros makes them.
            TwinJudge y = naming();
            y.end(20);
            dueName(y, 0, 0, 0, 0, 0, 0, 0, 0, 0, 0, 0, 0, 0, 0, 0, 0, 0, 0, 0, 0);
        });
        sentence.holds("Promise 2", "and behind each end() that answers a number.)", () -> {
            for (int n = 0; n <= 20; n++) {
                TwinJudge x = naming();
                x.feed(-1, -1, -1, -1, -1);
                Check.due("end(" + n + ")", x.end(n), 19 + n);
                Check.due("end(20) behind it", x.end(20), 39 + n);
                int[] due = new int[n + 20];
                for (int i = 0; i < n; i++) {
                    due[i] = 255;
                }
                dueName(x, due);
            }
            // One that answers NONE leaves them.
            for (int bad : new int[] {-1, 21}) {
                TwinJudge x = naming();
                x.feed(0x41424344, -1, -1, -1, 0x45464748);
                Check.due("end(" + bad + ")", x.end(bad), -1);
                x.end(20);
                dueName(x, 65, 66, 67, 68, 255, 255, 255, 255, 255, 255, 255, 255, 255, 255, 255, 255, 69, 70, 71, 72);
            }
        });
    }

    private void end() {
        sentence.holds("Promise 3", "The first n of the bytes that are ready come to the tape: how many it has.", () -> {
            TwinJudge x = naming();
            Check.due("end(0)", x.end(0), 19);
            x.feed(0x01020304, 0x05060708, 0x090B0C0D, 0, 0);
            Check.due("end(1)", x.end(1), 20);
            x.feed(0x01020304, 0x05060708, 0x090B0C0D, 0, 0);
            Check.due("end(5)", x.end(5), 25);
            x.feed(0x01020304, 0x05060708, 0x090B0C0D, 0x0E0F1011, 0x12131415);
            Check.due("end(20)", x.end(20), 45);
            dueName(x, 1, 1, 2, 3, 4, 5, 1, 2, 3, 4, 5, 6, 7, 8, 9, 11, 12, 13, 14, 15, 16, 17, 18, 19, 20, 21);
        });
        sentence.holds("Promise 3", "NONE, and nothing comes, if n is not 0 .. 20", () -> {
            TwinJudge x = naming();
            x.feed(0x41420000, 0, 0, 0, 0);
            for (int bad : new int[] {-1, 21, 22, 100}) {
                Check.due("end(" + bad + ")", x.end(bad), -1);
            }
            for (int bad : FAR) {
                Check.due("end(" + bad + ")", x.end(bad), -1);
            }
            Check.due("end(2): nothing came", x.end(2), 21);
            dueName(x, 65, 66);
            Check.due("end(0)", new TwinJudge().end(0), 0);
            Check.due("end(20)", new TwinJudge().end(20), 20);
        });
        sentence.holds("Promise 3", "or it would have more than 6000.", () -> {
            for (int last = 0; last <= 20; last++) {
                TwinJudge x = new TwinJudge();
                Check.put(x, Check.bytes("aag 0 0 0 0 0\nc\n" + "\0".repeat(6000 - last - 16)));
                x.feed(-1, -1, -1, -1, -1);
                for (int n = last + 1; n <= 20; n++) {
                    Check.due("end(" + n + ") with " + last + " left", x.end(n), -1);
                }
                Check.due("end(" + last + ") with as many left", x.end(last), 6000);
                Check.due("end(1) when full", x.end(1), -1);
                Check.due("end(20) when full", x.end(20), -1);
                Check.due("end(0) when full", x.end(0), 6000);
                Check.due("load(0) when full", x.load(0), 0);
                Check.due("end(20) behind it", x.end(20), 20);
            }
            // Nothing came by what was refused.
            TwinJudge y = new TwinJudge();
            Check.put(y, Check.bytes("aag 0 0 0 0 0\nc\n" + "\0".repeat(6000 - 17)));
            y.feed(-1, -1, -1, -1, -1);
            Check.due("end(2)", y.end(2), -1);
            Check.due("end(0)", y.end(0), 5999);
        });
    }

    private void load() {
        sentence.holds("Promise 4", "The tape is read as the file of circuit c, and is empty then: how many ands it has;", () -> {
            Check.due("load(0)", Check.load(new TwinJudge(), 0, "aag 0 0 0 0 0\n"), 0);
            Check.due("load(1)", Check.load(new TwinJudge(), 1, "aag 2 0 0 0 2\n2 0 0\n4 0 0\n"), 2);
            Check.due("load(1)", Check.load(new TwinJudge(), 1, "aig 150 0 0 0 150\n" + "\1\1".repeat(150)), 150);
            TwinJudge x = new TwinJudge();
            Check.due("load(1)", Check.load(x, 1, DELAY), 0);
            Check.due("many(0, 0)", x.many(0, 0), -1);
            Check.due("many(1, 0)", x.many(1, 0), 2);
            Check.due("end(0): the tape is empty", x.end(0), 0);
            Check.due("load(0)", Check.load(x, 0, FILL), 0);
            Check.due("many(0, 0)", x.many(0, 0), 7);
            Check.due("many(1, 0)", x.many(1, 0), 2);
            Check.due("end(20)", x.end(20), 20);
            // A circuit that is there gives way to the new one, whole.
            TwinJudge y = Check.one("aag 9 1 1 1 1\n2\n4 18\n18\n18 2 4\ni0 a\nl0 b\no0 c\n");
            Check.due("load(0)", Check.load(y, 0, "aag 9 1 1 1 0\n4\n2 3\n5\n"), 0);
            Check.due("value(0, 18, 1)", y.value(0, 18, 1), -1);
            Check.due("value(0, 4, 1)", y.value(0, 4, 1), 1);
            Check.due("step(1)", y.step(1), 0);
            Check.due("state(0)", y.state(0), 1);
            for (int kind = 0; kind < 3; kind++) {
                Check.due("symbol(0, " + kind + ", 0, 0)", y.symbol(0, kind, 0, 0), -1);
            }
        });
        sentence.holds("Promise 4", "all latches of both are 0.", () -> {
            for (int c = 0; c < 2; c++) {
                TwinJudge x = Check.both(FILL, FILL);
                for (int n = 0; n < 6; n++) {
                    x.step(0);
                }
                Check.due("state(0)", x.state(0), 63);
                Check.due("state(1)", x.state(1), 63);
                Check.due("load(" + c + ")", Check.load(x, c, DELAY), 0);
                Check.due("state(0)", x.state(0), 0);
                Check.due("state(1)", x.state(1), 0);
            }
        });
    }

    private static void dueAsItWas(TwinJudge x) {
        Check.due("end(0): the tape is empty", x.end(0), 0);
        Check.due("state(0)", x.state(0), 3);
        Check.due("state(1)", x.state(1), 1);
        for (int what = 0; what < 5; what++) {
            Check.due("many(0, " + what + ")", x.many(0, what), new int[] {7, 1, 6, 1, 0}[what]);
            Check.due("many(1, " + what + ")", x.many(1, what), new int[] {2, 1, 1, 1, 0}[what]);
        }
        Check.due("value(0, 14, 1)", x.value(0, 14, 1), 1);
        Check.due("value(1, 2, 1)", x.value(1, 2, 1), 1);
        Check.due("symbol(1, 0, 0, 0)", x.symbol(1, 0, 0, 0), 'n');
        Check.due("judge()", x.judge(), 2);
    }

    private static TwinJudge moved() {
        TwinJudge x = Check.both(FILL, DELAY + "i0 n\n");
        x.step(0);
        x.step(1);
        return x;
    }

    private void loadRefused() {
        // One for each fault; all of them would change much if they were taken.
        String[] bad = {"", "aag 1 1 0 0 0\n2\ni0 x\nz", "aag 0 1 0 0 0\n", "aag 4 1 0 2 0\n8\n0\n10\n",
            "aag 4 2 1 0 0\n8\n6\n6 0\n", "aag 4 1 1 1 0\n8\n6 2\n0\ni0 x\n", "aag 4 1 0 1 2\n8\n6\n6 4 4\n4 6 8\ni0 x\n"};
        sentence.holds("Promise 4", "IllegalArgumentException if there is a fault,", () -> {
            int[] faults = {1, 1, 2, 3, 4, 5, 6};
            for (int n = 0; n < bad.length; n++) {
                for (int c = 0; c < 2; c++) {
                    TwinJudge x = new TwinJudge();
                    Check.put(x, Check.bytes(bad[n]));
                    int circuit = c;
                    Check.throwing("load(" + c + ") of " + Check.shown(bad[n]), () -> x.load(circuit), Check.ARGUMENT);
                    Check.due("fault(0)", x.fault(0), faults[n]);
                    Check.due("many(" + c + ", 0)", x.many(c, 0), -1);
                }
            }
        });
        sentence.holds("Promise 4", "or no such circuit (then nothing is read, there is no fault);", () -> {
            for (int c : new int[] {-1, 2, 3, 64}) {
                dueNoSuch(c);
            }
            for (int c : FAR) {
                dueNoSuch(c);
            }
        });
        sentence.holds("Promise 4", "the tape is empty in any case;", () -> {
            for (String file : bad) {
                TwinJudge x = new TwinJudge();
                Check.load(x, 0, file + "rest");
                Check.due("end(0) behind a fault", x.end(0), 0);
            }
            for (int c : new int[] {-1, 2}) {
                TwinJudge x = new TwinJudge();
                Check.put(x, Check.bytes(DELAY));
                Check.throwing("load(" + c + ")", () -> x.load(c), Check.ARGUMENT);
                Check.due("end(0) behind load(" + c + ")", x.end(0), 0);
                // What comes then is all that is read.
                Check.due("load(0)", Check.load(x, 0, DELAY), 0);
            }
            TwinJudge y = Check.one(DELAY);
            Check.due("end(0) behind a load without a fault", y.end(0), 0);
        });
        sentence.holds("Promise 4", "behind an exception circuits and latches stay as they were.", () -> {
            for (String file : bad) {
                for (int c = 0; c < 2; c++) {
                    TwinJudge x = moved();
                    Check.due("load(" + c + ")", Check.load(x, c, file), -1);
                    dueAsItWas(x);
                }
            }
            TwinJudge x = moved();
            Check.due("load(2)", Check.load(x, 2, DELAY), -1);
            dueAsItWas(x);
            TwinJudge y = moved();
            y.judge();
            Check.due("load(1), judged before", Check.load(y, 1, bad[6]), -1);
            dueAsItWas(y);
        });
    }

    private static void dueNoSuch(int c) {
        // A file with a fault, one without.
        for (String file : new String[] {"", "aag", DELAY}) {
            TwinJudge x = new TwinJudge();
            Check.load(x, 0, "aag 0 0");
            Check.put(x, Check.bytes(file));
            Check.throwing("load(" + c + ")", () -> x.load(c), Check.ARGUMENT);
            Check.due("fault(0)", x.fault(0), 0);
            Check.due("fault(1)", x.fault(1), -1);
            Check.due("many(0, 0)", x.many(0, 0), -1);
            Check.due("many(1, 0)", x.many(1, 0), -1);
            Check.due("many(" + c + ", 0)", x.many(c, 0), -1);
        }
    }

    private void fault() {
        sentence.holds("Promise 5", "Of the latest load(),", () -> {
            TwinJudge x = new TwinJudge();
            Check.load(x, 0, "aag 0 0");
            Check.due("fault(1)", x.fault(1), 7);
            Check.load(x, 1, "aag 201 0 0 0 0\n");
            Check.due("fault(0): whichever circuit it was for", x.fault(0), 2);
            Check.due("fault(1)", x.fault(1), 16);
            x.feed(0, 0, 0, 0, 0);
            x.end(5);
            x.reset();
            x.step(1);
            Check.throwing("judge()", x::judge, Check.STATE);
            Check.due("fault(0): other calls leave it", x.fault(0), 2);
            Check.due("fault(1): asked again", x.fault(1), 16);
            x.end(0);
            Check.throwing("load(0)", () -> x.load(0), Check.ARGUMENT);
            Check.due("fault(0)", x.fault(0), 1);
            Check.due("fault(1)", x.fault(1), 0);
            Check.load(x, 0, DELAY);
            Check.due("fault(0)", x.fault(0), 0);
            Check.due("fault(1)", x.fault(1), -1);
            Check.load(x, 1, "x");
            Check.due("fault(0)", x.fault(0), 1);
            Check.throwing("load(2)", () -> x.load(2), Check.ARGUMENT);
            Check.due("fault(0): the latest one had none such circuit", x.fault(0), 0);
        });
        sentence.holds("Promise 5", "ahead of any as without a fault:", () -> {
            TwinJudge x = new TwinJudge();
            Check.due("fault(0)", x.fault(0), 0);
            Check.due("fault(1)", x.fault(1), -1);
            Check.put(x, Check.bytes("zzz"));
            Check.due("fault(0)", x.fault(0), 0);
            Check.due("fault(1)", x.fault(1), -1);
        });
        sentence.holds("Promise 5", "the fault (what = 0), 0 without one; its place (1), NONE without one.", () -> {
            Check.fine(DELAY);
            Check.fault(1, "aag^");
            Check.fault(2, "aag 0 1 0 0 0\n^");
            Check.fault(3, "aag 0 0 0 1 0\n^2\n");
            Check.fault(4, "aag 1 1 0 0 0\n^3\n");
            Check.fault(5, "aag 1 0 0 1 0\n^3\n");
            Check.fault("aag 1 0 0 0 1\n2 2 2\n", 6, 1);
        });
        sentence.holds("Promise 5", "NONE for another what.", () -> {
            TwinJudge x = new TwinJudge();
            for (int n = 0; n < 3; n++) {
                for (int what : new int[] {2, 3, 6}) {
                    Check.due("fault(" + what + ")", x.fault(what), -1);
                }
                for (int what : FAR) {
                    Check.due("fault(" + what + ")", x.fault(what), -1);
                }
                Check.load(x, 0, n == 0 ? "aag 0" : DELAY);
            }
        });
    }

    private void many() {
        sentence.holds("Promise 6", "Of circuit c: M (0), inputs (1), latches (2), outputs (3), ands (4);", () -> {
            TwinJudge x = Check.both("aag 0 0 0 0 0\n", "aig 161 5 6 8 150\n" + "0\n".repeat(14) + "\1\1".repeat(150));
            int[] most = {161, 5, 6, 8, 150};
            for (int what = 0; what < 5; what++) {
                Check.due("many(0, " + what + ")", x.many(0, what), 0);
                Check.due("many(1, " + what + ")", x.many(1, what), most[what]);
            }
            Check.due("many(0, 0)", Check.one("aag 200 0 0 0 0\n").many(0, 0), 200);
        });
        sentence.holds("Promise 6", "NONE for another what,", () -> {
            TwinJudge x = Check.both(DELAY, FILL);
            for (int what : new int[] {-1, 5, 6, 7}) {
                Check.due("many(0, " + what + ")", x.many(0, what), -1);
                Check.due("many(1, " + what + ")", x.many(1, what), -1);
            }
            for (int what : FAR) {
                Check.due("many(0, " + what + ")", x.many(0, what), -1);
            }
        });
        sentence.holds("Promise 6", "or if there is none such.", () -> {
            TwinJudge x = new TwinJudge();
            TwinJudge y = Check.both(DELAY, FILL);
            for (int what = -1; what <= 5; what++) {
                for (int c = -2; c <= 3; c++) {
                    Check.due("many(" + c + ", " + what + ")", x.many(c, what), -1);
                    if (c < 0 || c > 1) {
                        Check.due("many(" + c + ", " + what + ")", y.many(c, what), -1);
                    }
                }
            }
            for (int c : FAR) {
                Check.due("many(" + c + ", 0)", y.many(c, 0), -1);
            }
            Check.load(x, 1, DELAY);
            Check.due("many(0, 0) with circuit 1 alone", x.many(0, 0), -1);
            Check.due("many(1, 0)", x.many(1, 0), 2);
        });
    }

    private void symbol() {
        String body = "aag 3 1 1 1 0\n2\n4 0\n0\n";
        sentence.holds("Promise 7", "Byte i, 0 .. 255, of the name of input (kind 0), latch (1), output (2) k of circuit c;", () -> {
            TwinJudge x = Check.both(body + "i0 \0\377\nl0 \200\177\no0 mno\n", body + "i0 a\nl0 b\no0 c\n");
            int[][] due = {{0, 255}, {128, 127}, {'m', 'n', 'o'}};
            for (int kind = 0; kind < 3; kind++) {
                for (int i = 0; i < due[kind].length; i++) {
                    Check.due("symbol(0, " + kind + ", 0, " + i + ")", x.symbol(0, kind, 0, i), due[kind][i]);
                }
                Check.due("symbol(1, " + kind + ", 0, 0)", x.symbol(1, kind, 0, 0), 'a' + kind);
            }
            String forty = "0123456789012345678901234567890123456789";
            TwinJudge y = Check.one(body + "i0 " + forty + "\nl0 " + forty + "\n");
            for (int i = 0; i < 40; i++) {
                Check.due("symbol(0, 1, 0, " + i + ")", y.symbol(0, 1, 0, i), forty.charAt(i));
            }
        });
        sentence.holds("Promise 7", "NONE if there is none.", () -> {
            TwinJudge x = Check.one("aag 4 2 1 2 0\n2\n4\n6 0\n0\n1\ni1 " + "x".repeat(40) + "\no0 y\n");
            // No byte, no name, no such one, no such kind, no such circuit.
            Check.due("symbol(0, 0, 1, 39)", x.symbol(0, 0, 1, 39), 'x');
            Check.due("symbol(0, 0, 1, 40)", x.symbol(0, 0, 1, 40), -1);
            Check.due("symbol(0, 0, 1, -1)", x.symbol(0, 0, 1, -1), -1);
            Check.due("symbol(0, 2, 0, 1)", x.symbol(0, 2, 0, 1), -1);
            Check.due("symbol(0, 0, 0, 0)", x.symbol(0, 0, 0, 0), -1);
            Check.due("symbol(0, 1, 0, 0)", x.symbol(0, 1, 0, 0), -1);
            Check.due("symbol(0, 2, 1, 0)", x.symbol(0, 2, 1, 0), -1);
            Check.due("symbol(0, 0, 2, 0)", x.symbol(0, 0, 2, 0), -1);
            Check.due("symbol(0, 0, -1, 0)", x.symbol(0, 0, -1, 0), -1);
            Check.due("symbol(0, 2, -1, 0)", x.symbol(0, 2, -1, 0), -1);
            Check.due("symbol(0, -1, 0, 0)", x.symbol(0, -1, 0, 0), -1);
            Check.due("symbol(0, 3, 0, 0)", x.symbol(0, 3, 0, 0), -1);
            Check.due("symbol(0, 3, 1, 0)", x.symbol(0, 3, 1, 0), -1);
            Check.due("symbol(1, 0, 1, 0)", x.symbol(1, 0, 1, 0), -1);
            Check.due("symbol(-1, 0, 1, 0)", x.symbol(-1, 0, 1, 0), -1);
            Check.due("symbol(2, 0, 1, 0)", x.symbol(2, 0, 1, 0), -1);
            for (int far : FAR) {
                Check.due("symbol(" + far + ", 0, 1, 0)", x.symbol(far, 0, 1, 0), -1);
                Check.due("symbol(0, " + far + ", 1, 0)", x.symbol(0, far, 1, 0), -1);
                Check.due("symbol(0, 0, " + far + ", 0)", x.symbol(0, 0, far, 0), -1);
                Check.due("symbol(0, 1, " + far + ", 0)", x.symbol(0, 1, far, 0), -1);
                Check.due("symbol(0, 2, " + far + ", 0)", x.symbol(0, 2, far, 0), -1);
                Check.due("symbol(0, 0, 1, " + far + ")", x.symbol(0, 0, 1, far), -1);
            }
            // One beyond a kind's last is not another kind's first, nor is one ahead of its first another kind's last.
            StringBuilder all = new StringBuilder("aag 12 5 6 8 1\n2\n4\n6\n8\n10\n12 0\n14 0\n16 0\n18 0\n20 0\n22 0\n");
            all.append("0\n".repeat(8)).append("24 0 0\n");
            int[] sizes = {5, 6, 8};
            for (int kind = 0; kind < 3; kind++) {
                for (int k = 0; k < sizes[kind]; k++) {
                    all.append("ilo".charAt(kind)).append(k).append(" n\n");
                }
            }
            TwinJudge full = Check.one(all.toString());
            for (int kind = -1; kind <= 4; kind++) {
                for (int k = -2; k <= 20; k++) {
                    boolean there = kind >= 0 && kind < 3 && k >= 0 && k < sizes[kind];
                    Check.due("symbol(0, " + kind + ", " + k + ", 0)", full.symbol(0, kind, k, 0), there ? 'n' : -1);
                }
            }
            // Symbols of what an earlier file had.
            Check.load(x, 0, "aag 0 0 0 0 0\n");
            Check.due("symbol(0, 0, 1, 0)", x.symbol(0, 0, 1, 0), -1);
            Check.load(x, 0, "aag 4 2 1 2 0\n2\n4\n6 0\n0\n1\ni1 z\n");
            Check.due("symbol(0, 0, 1, 0)", x.symbol(0, 0, 1, 0), 'z');
            Check.due("symbol(0, 0, 1, 1)", x.symbol(0, 0, 1, 1), -1);
            Check.due("symbol(0, 2, 0, 0)", x.symbol(0, 2, 0, 0), -1);
        });
    }

    private void reset() {
        sentence.holds("Promise 8", "All latches become 0.", () -> {
            TwinJudge x = Check.both(FILL, FILL);
            for (int n = 0; n < 6; n++) {
                x.step(0);
            }
            Check.due("state(0)", x.state(0), 63);
            x.reset();
            Check.due("state(0)", x.state(0), 0);
            Check.due("state(1)", x.state(1), 0);
            x.reset();
            Check.due("state(1) behind another one", x.state(1), 0);
            Check.due("step(0)", x.step(0), 0);
            Check.due("state(0)", x.state(0), 1);
            // Without circuits, and with one.
            TwinJudge y = new TwinJudge();
            y.reset();
            Check.due("state(0)", y.state(0), -1);
            Check.load(y, 1, FILL);
            y.step(0);
            y.reset();
            Check.due("state(0)", y.state(0), -1);
            Check.due("state(1)", y.state(1), 0);
        });
    }

    private void state() {
        sentence.holds("Promise 9", "The latches of circuit c as bits, latch 0 the lowest;", () -> {
            TwinJudge x = Check.both(FILL, DELAY);
            for (int n = 0; n <= 6; n++) {
                Check.due("state(0) behind " + n, x.state(0), (1 << n) - 1);
                Check.due("state(1) behind " + n, x.state(1), n % 2);
                x.step(n + 1);
            }
            // Latch 0 is the first one in the file, whatever its variable is.
            TwinJudge y = Check.one("aag 3 0 2 0 0\n6 1\n2 0\n");
            y.step(0);
            Check.due("state(0)", y.state(0), 1);
            TwinJudge z = Check.one("aag 3 0 2 0 0\n6 0\n2 1\n");
            z.step(0);
            Check.due("state(0)", z.state(0), 2);
            // Without latches.
            TwinJudge w = Check.one("aag 0 0 0 0 0\n");
            w.step(-1);
            Check.due("state(0)", w.state(0), 0);
        });
        sentence.holds("Promise 9", "NONE if there is none such.", () -> {
            TwinJudge x = Check.both(DELAY, DELAY);
            for (int c : new int[] {-1, 2}) {
                Check.due("state(" + c + ")", x.state(c), -1);
            }
            for (int c : FAR) {
                Check.due("state(" + c + ")", x.state(c), -1);
            }
            TwinJudge y = Check.one(DELAY);
            y.step(1);
            Check.due("state(0)", y.state(0), 1);
            Check.due("state(1)", y.state(1), -1);
        });
    }

    private void value() {
        sentence.holds("Promise 10", "What a literal of circuit c is, with the latches as they are,", () -> {
            TwinJudge x = Check.both(DELAY, "aag 2 1 1 1 0\n4\n2 5\n4\n");
            Check.due("value(0, 4, 1)", x.value(0, 4, 1), 0);
            Check.due("value(0, 5, 1)", x.value(0, 5, 1), 1);
            Check.due("value(1, 2, 1)", x.value(1, 2, 1), 0);
            x.step(1);
            Check.due("value(0, 4, 0)", x.value(0, 4, 0), 1);
            Check.due("value(0, 5, 0)", x.value(0, 5, 0), 0);
            Check.due("value(1, 2, 0)", x.value(1, 2, 0), 0);
            Check.due("state(0): it moves nothing", x.state(0), 1);
            x.step(0);
            Check.due("value(1, 2, 0)", x.value(1, 2, 0), 1);
            x.reset();
            Check.due("value(1, 2, 0)", x.value(1, 2, 0), 0);
            // The first literals and the last ones.
            TwinJudge y = Check.one("aag 200 1 0 0 0\n400\n");
            int[][] due = {{0, 0}, {1, 1}, {400, 1}, {401, 0}};
            for (int[] pair : due) {
                Check.due("value(0, " + pair[0] + ", 1)", y.value(0, pair[0], 1), pair[1]);
            }
            TwinJudge z = Check.one("aag 0 0 0 0 0\n");
            Check.due("value(0, 0, 1)", z.value(0, 0, 1), 0);
            Check.due("value(0, 1, 1)", z.value(0, 1, 1), 1);
        });
        sentence.holds("Promise 10", "and vector x (its lowest bits);", () -> {
            TwinJudge x = Check.both("aag 5 5 0 0 0\n2\n4\n6\n8\n10\n", "aag 1 1 0 0 0\n2\n");
            for (int vector : new int[] {0, 1, 2, 4, 8, 16, 21, 31, 32, 63, -1, -2, -32, 1 << 30, Integer.MIN_VALUE,
                Integer.MAX_VALUE}) {
                for (int k = 0; k < 5; k++) {
                    Check.due("value(0, " + (2 * k + 2) + ", " + vector + ")", x.value(0, 2 * k + 2, vector), vector >> k & 1);
                }
                Check.due("value(1, 2, " + vector + ")", x.value(1, 2, vector), vector & 1);
            }
        });
        sentence.holds("Promise 10", "NONE if there is no such circuit or literal,", () -> {
            TwinJudge x = Check.one(DELAY);
            for (int c : new int[] {-1, 1, 2}) {
                for (int literal = 0; literal < 6; literal++) {
                    Check.due("value(" + c + ", " + literal + ", 0)", x.value(c, literal, 0), -1);
                }
            }
            Check.due("value(0, 5, 0)", x.value(0, 5, 0), 1);
            for (int literal : new int[] {6, 7, -1, -2, 400, 401, 402, 403}) {
                Check.due("value(0, " + literal + ", 0)", x.value(0, literal, 0), -1);
            }
            for (int far : FAR) {
                Check.due("value(" + far + ", 0, 0)", x.value(far, 0, 0), -1);
                Check.due("value(0, " + far + ", 0)", x.value(0, far, 0), -1);
            }
            TwinJudge y = Check.one("aag 200 1 0 0 0\n400\n");
            Check.due("value(0, 402, 0)", y.value(0, 402, 0), -1);
            Check.due("value(0, 403, 0)", y.value(0, 403, 0), -1);
            Check.due("value(0, 2, 0) without variables", Check.one("aag 0 0 0 0 0\n").value(0, 2, 0), -1);
        });
        sentence.holds("Promise 10", "or its variable is defined nowhere.", () -> {
            TwinJudge x = Check.one("aag 5 1 1 0 1\n4\n8 0\n10 4 8\n");
            int[] due = {0, 1, -1, -1, 1, 0, -1, -1, 0, 1, 0, 1};
            for (int literal = 0; literal < due.length; literal++) {
                Check.due("value(0, " + literal + ", 1)", x.value(0, literal, 1), due[literal]);
            }
            // Though it was, by the file before.
            Check.load(x, 0, "aag 5 1 0 0 0\n2\n");
            Check.due("value(0, 4, 1)", x.value(0, 4, 1), -1);
            Check.due("value(0, 2, 1)", x.value(0, 2, 1), 1);
        });
    }

    private void step() {
        sentence.holds("Promise 11", "The outputs of circuit 0, and 256 times those of circuit 1, as bits (output 0 the lowest;", () -> {
            String ones = "aag 0 0 0 8 0\n" + "1\n".repeat(8);
            String first = "aag 0 0 0 8 0\n1\n0\n0\n0\n0\n0\n0\n0\n";
            String last = "aag 0 0 0 8 0\n0\n0\n0\n0\n0\n0\n0\n1\n";
            Check.due("step(0)", Check.both(ones, ones).step(0), 65535);
            Check.due("step(0)", Check.both(first, last).step(0), 1 + 256 * 128);
            Check.due("step(0)", Check.both(last, first).step(0), 128 + 256);
            // They need not match.
            Check.due("step(1)", Check.both("aag 1 1 0 2 0\n2\n3\n2\n", ones).step(1), 2 + 256 * 255);
            Check.due("step(1) without outputs", Check.both("aag 1 1 0 0 0\n2\n", "aag 0 0 0 0 0\n").step(1), 0);
        });
        sentence.holds("Promise 11", "0 for a circuit that is not there),", () -> {
            Check.due("step(1) of none", new TwinJudge().step(1), 0);
            TwinJudge x = new TwinJudge();
            Check.load(x, 0, "aag 0 0 0 1 0\n1\n");
            Check.due("step(1) of circuit 0 alone", x.step(1), 1);
            TwinJudge y = new TwinJudge();
            Check.load(y, 1, "aag 0 0 0 1 0\n1\n");
            Check.due("step(1) of circuit 1 alone", y.step(1), 256);
        });
        sentence.holds("Promise 11", "with the latches as they are and vector x;", () -> {
            TwinJudge x = Check.both("aag 3 1 1 2 1\n2\n4 2\n4\n6\n6 2 4\n", "aag 2 2 0 2 0\n4\n2\n2\n4\n");
            Check.due("step(1)", x.step(1), 256 * 2);
            Check.due("step(3)", x.step(3), 3 + 256 * 3);
            Check.due("step(-1): its lowest bits", x.step(-1), 3 + 256 * 3);
            Check.due("step(4)", x.step(4), 1);
            Check.due("step(MIN)", x.step(Integer.MIN_VALUE), 0);
            Check.due("step(MAX)", x.step(Integer.MAX_VALUE), 256 * 3);
            Check.due("step(32 + 2)", x.step(34), 1 + 256);
        });
        sentence.holds("Promise 11", "then each latch becomes its next.", () -> {
            // All at once: two latches change places, and a third one takes what the first one was.
            TwinJudge x = Check.one("aag 4 1 3 1 0\n8\n2 4\n4 8\n6 2\n2\n");
            int[] vectors = {1, 0, 1, 1, 0, 0, 0};
            int state = 0;
            for (int vector : vectors) {
                Check.due("step(" + vector + ")", x.step(vector), state & 1);
                state = (state >> 1 & 1) + 2 * vector + 4 * (state & 1);
                Check.due("state(0)", x.state(0), state);
            }
            // Of both circuits, each by its own nexts; to the constants too.
            TwinJudge y = Check.both("aag 3 0 3 0 0\n2 1\n4 0\n6 7\n", "aag 1 0 1 0 0\n2 3\n");
            y.step(0);
            Check.due("state(0)", y.state(0), 5);
            Check.due("state(1)", y.state(1), 1);
            y.step(0);
            Check.due("state(0)", y.state(0), 1);
            Check.due("state(1)", y.state(1), 0);
        });
    }
}
