/** The sentences of "Terms" on what a FILE is, in both forms. */
final class FileEdges {
    private static final String TERMS = "Terms";
    /** One line of each sort: input 2, latch 4 with next 6, output 7, and 6 with operands 5 and 2. */
    static final String TEXT = "aag 3 1 1 1 1\n2\n4 6\n7\n6 5 2\n";
    /** The same circuit. */
    static final String BINARY = "aig 3 1 1 1 1\n6\n7\n\1\3";

    private final Sentence sentence;

    FileEdges(Sentence sentence) {
        this.sentence = sentence;
    }

    void all() {
        numbers();
        linesAndBlanks();
        text();
        binary();
        deltas();
        symbols();
        comment();
    }

    private static boolean isDigit(int b) {
        return b >= '0' && b <= '9';
    }

    private void numbers() {
        sentence.holds(TERMS, "A FILE, bytes: a NUMBER is written in decimal digits,", () -> {
            for (int m : new int[] {0, 1, 2, 3, 4, 5, 6, 7, 8, 9, 10, 19, 98, 100, 137, 199, 200}) {
                Check.due("many(0, 0) of " + m, Check.one("aag " + m + " 0 0 0 0\n").many(0, 0), m);
            }
            for (char b = 0; b < 256; b++) {
                if (!isDigit(b)) {
                    Check.fault(1, "aag ^" + b + " 0 0 0 0\n");
                    Check.fault(1, "aag 3 1 1 1 1\n^" + b + "\n");
                }
                if (!isDigit(b) && b != ' ') {
                    Check.fault(1, "aag 1^" + b + "0 0 0 0\n");
                }
            }
        });
        sentence.holds(TERMS, "at most four,", () -> {
            // Four are a number, though one that is too high; the fifth is too much.
            for (String number : new String[] {"1000", "9999"}) {
                Check.fault(2, "aag " + number + " 0 0 0 0\n^");
                Check.fault(2, "aag 0 0 0 0 " + number + "\n^");
                Check.fault(3, "aag 1 1 0 0 0\n^" + number + "\n");
                Check.fault(1, TEXT + "i" + number + "^ a\n");
                Check.fault(1, "aag " + number + "^0 0 0 0 0\n");
                Check.fault(1, "aag 0 0 0 0 " + number + "^0\n");
                Check.fault(1, "aag 1 1 0 0 0\n" + number + "^0\n");
                Check.fault(1, TEXT + "i" + number + "^0 a\n");
            }
        });
        sentence.holds(TERMS, "without a 0 ahead of others;", () -> {
            for (String number : new String[] {"0^0", "0^1", "0^01", "0^000", "0^0000", "0^9999"}) {
                Check.fault(1, "aag " + number + " 0 0 0 0\n");
                Check.fault(1, "aag 1 " + number + " 0 0 0\n2\n");
                Check.fault(1, "aag 1 0 " + number + " 0 0\n2 2\n");
                Check.fault(1, "aag 1 0 0 " + number + " 0\n0\n");
                Check.fault(1, "aag 1 0 0 0 " + number + "\n2 0 0\n");
                Check.fault(1, "aag 1 1 0 0 0\n" + number + "\n");
                Check.fault(1, "aag 1 0 1 0 0\n2 " + number + "\n");
                Check.fault(1, "aag 1 0 0 1 0\n" + number + "\n");
                Check.fault(1, "aag 1 0 0 0 1\n2 1 " + number + "\n");
                Check.fault(1, "aig 1 0 1 0 0\n" + number + "\n");
                Check.fault(1, TEXT + "i" + number + " a\n");
            }
            // A 0 alone, and one behind others, are fine.
            Check.fine("aag 100 0 0 1 0\n0\n");
            Check.fine("aag 10 1 0 1 0\n20\n20\n");
        });
    }

    private void linesAndBlanks() {
        sentence.holds(TERMS, "a LINE ends with a byte 10;", () -> {
            for (int place = 0; place < TEXT.length(); place++) {
                for (char b = 0; b < 256 && TEXT.charAt(place) == '\n'; b++) {
                    if (b != '\n' && !isDigit(b)) {
                        Check.fault(1, TEXT.substring(0, place) + "^" + b + TEXT.substring(place + 1));
                        Check.fault(1, TEXT.substring(0, place) + "^" + b + TEXT.substring(place));
                    }
                }
            }
            // What comes next must not come on the same line.
            for (String rest : new String[] {"^c\n", "^i0 a\n", "^l0 a\n", "^o0 a\n"}) {
                Check.fault(1, "aag 0 0 0 0 0" + rest);
                Check.fault(1, "aag 1 1 0 0 0\n2" + rest);
                Check.fault(1, "aag 1 0 1 0 0\n2 0" + rest);
                Check.fault(1, "aag 0 0 0 1 0\n0" + rest);
                Check.fault(1, "aag 1 0 0 0 1\n2 0 0" + rest);
                Check.fault(1, "aig 1 0 1 0 0\n0" + rest);
                Check.fault(1, "aig 0 0 0 1 0\n0" + rest);
            }
            Check.fault(1, "aig 1 0 0 1 1\n0^\2\0");
            Check.fault(1, "aag 0 0 0 0 0^");
            Check.fault(1, "aag 0 0 0 0 0\n^\n");
            Check.fault(1, TEXT.substring(0, TEXT.length() - 1) + "^");
        });
        sentence.holds(TERMS, "BLANKS are single bytes 32.", () -> {
            String file = TEXT + "i0 ";
            for (int place = 0; place < file.length(); place++) {
                for (char b = 0; b < 256 && file.charAt(place) == ' '; b++) {
                    if (b != ' ' && !isDigit(b)) {
                        Check.fault(1, file.substring(0, place) + "^" + b + file.substring(place + 1) + "a\n");
                    }
                }
                // A second one, or one ahead of a line or behind it.
                boolean beside = file.charAt(place) == '\n' || place > 0 && " \n".indexOf(file.charAt(place - 1)) >= 0;
                if (beside) {
                    Check.fault(1, file.substring(0, place) + "^ " + file.substring(place) + "a\n");
                }
            }
            Check.fault(1, "^ " + TEXT);
            // Behind a symbol's blank the name begins, whatever its first byte is.
            Check.due("a name's first blank", Check.one(TEXT + "i0  a\n").symbol(0, 0, 0, 0), ' ');
        });
    }

    private void text() {
        sentence.holds(TERMS, "TEXT: \"aag M I L O A\", each behind a blank, and the line's end: M, and how many inputs, "
            + "latches, outputs, ands.", () -> {
            TwinJudge x = Check.one("aag 13 1 2 3 4\n2\n4 0\n6 0\n0\n0\n0\n8 0 0\n10 0 0\n12 0 0\n14 0 0\n");
            int[] due = {13, 1, 2, 3, 4};
            for (int what = 0; what < 5; what++) {
                Check.due("many(0, " + what + ")", x.many(0, what), due[what]);
            }
            for (char b = 0; b < 256; b++) {
                if (b != 'a') {
                    Check.fault(1, "^" + b + "ag 0 0 0 0 0\n");
                }
                if (b != 'a' && b != 'i') {
                    Check.fault(1, "a^" + b + "g 0 0 0 0 0\n");
                }
                if (b != 'g') {
                    Check.fault(1, "aa^" + b + " 0 0 0 0 0\n");
                }
            }
            Check.fault(1, "aag^\n");
            Check.fault(1, "aag^0 0 0 0 0\n");
            Check.fault(1, "aag ^\n");
            Check.fault(1, "aag 0^\n");
            Check.fault(1, "aag 0 0 0 0^\n");
            Check.fault(1, "aag 0 0 0 0 ^\n");
            Check.fault(1, "aag 0 0 0 0 0^ 0\n");
            // Nothing but the first line.
            Check.fine("aag 0 0 0 0 0\n");
        });
        sentence.holds(TERMS, "Then I lines with a literal: the input it DEFINES;", () -> {
            TwinJudge x = Check.one("aag 7 5 0 0 0\n10\n2\n14\n4\n6\n");
            int[] variables = {5, 1, 7, 2, 3};
            for (int k = 0; k < 5; k++) {
                Check.due("input " + k, x.value(0, 2 * variables[k], 1 << k), 1);
                Check.due("input " + k + " of other vectors", x.value(0, 2 * variables[k], 31 - (1 << k)), 0);
            }
            Check.fault(1, "aag 2 2 0 0 0\n2\n^");
            Check.fault(1, "aag 2 1 0 0 0\n2\n^4\n");
            Check.fault(1, "aag 2 0 0 0 0\n^2\n");
            Check.fault(1, "aag 2 1 0 0 0\n^\n");
            Check.fault(1, "aag 2 1 0 0 0\n2^ 4\n");
        });
        sentence.holds(TERMS, "L lines with two, a blank between: the latch it defines, its next;", () -> {
            TwinJudge x = Check.one("aag 7 0 6 0 0\n4 1\n2 0\n14 2\n6 5\n10 3\n8 9\n");
            // Latch 0 takes 1, 3 the negation of latch 0, 4 that of latch 1, 5 its own.
            x.step(0);
            Check.due("state(0)", x.state(0), 1 + 8 + 16 + 32);
            x.step(0);
            Check.due("state(0)", x.state(0), 1 + 16);
            Check.fault(1, "aag 2 0 2 0 0\n2 2\n^");
            Check.fault(1, "aag 2 0 1 0 0\n2 2\n^4 4\n");
            Check.fault(1, "aag 2 0 1 0 0\n2^\n");
            Check.fault(1, "aag 2 0 1 0 0\n2 ^\n");
            Check.fault(1, "aag 2 0 1 0 0\n2 2^ 2\n");
        });
        sentence.holds(TERMS, "O lines with one: the output;", () -> {
            Check.due("step(1)", Check.one("aag 1 1 0 8 0\n2\n0\n1\n2\n3\n3\n2\n0\n1\n").step(1), 2 + 4 + 32 + 128);
            Check.due("step(0)", Check.one("aag 1 1 0 8 0\n2\n0\n1\n2\n3\n3\n2\n0\n1\n").step(0), 2 + 8 + 16 + 128);
            Check.fault(1, "aag 0 0 0 2 0\n1\n^");
            Check.fault(1, "aag 0 0 0 1 0\n1\n^1\n");
            Check.fault(1, "aag 0 0 0 1 0\n^\n");
            Check.fault(1, "aag 0 0 0 1 0\n1^ 1\n");
        });
        sentence.holds(TERMS, "A lines with three, blanks between: the and it defines, its operands.", () -> {
            TwinJudge x = Check.one("aag 9 2 0 0 3\n2\n4\n18 2 5\n8 5 3\n6 18 1\n");
            for (int vector = 0; vector < 4; vector++) {
                Check.due("value(0, 18, " + vector + ")", x.value(0, 18, vector), vector == 1 ? 1 : 0);
                Check.due("value(0, 8, " + vector + ")", x.value(0, 8, vector), vector == 0 ? 1 : 0);
                Check.due("value(0, 6, " + vector + ")", x.value(0, 6, vector), vector == 1 ? 1 : 0);
            }
            // As many lines of each sort as there can be: and 150 is input 4, each other one the next one's negation.
            StringBuilder most = new StringBuilder("aag 200 5 6 8 150\n392\n394\n396\n398\n400\n");
            for (int k = 0; k < 6; k++) {
                most.append(380 + 2 * k).append(" 2\n");
            }
            most.append("2\n3\n4\n5\n2\n3\n4\n5\n");
            for (int v = 1; v <= 150; v++) {
                most.append(2 * v).append(v == 150 ? " 400 400\n" : " " + (2 * v + 3) + " 1\n");
            }
            TwinJudge full = Check.one(most.toString());
            for (int vector : new int[] {0, 15, 16, 31}) {
                int due = vector >> 4;
                Check.due("value(0, 300, " + vector + ")", full.value(0, 300, vector), due);
                Check.due("value(0, 2, " + vector + ")", full.value(0, 2, vector), 1 - due);
                Check.due("step(" + vector + ")", full.step(vector), due == 0 ? 0x99 : 0x66);
                Check.due("state(0)", full.state(0), due == 0 ? 63 : 0);
            }
            Check.fault(1, "aag 2 0 0 0 2\n2 0 0\n^");
            Check.fault(1, "aag 2 0 0 0 1\n2 0 0\n^4 0 0\n");
            Check.fault(1, "aag 2 0 0 0 1\n2^\n");
            Check.fault(1, "aag 2 0 0 0 1\n2 0^\n");
            Check.fault(1, "aag 2 0 0 0 1\n2 0 ^\n");
            Check.fault(1, "aag 2 0 0 0 1\n2 0 0^ 0\n");
        });
    }

    private void binary() {
        sentence.holds(TERMS, "BINARY: \"aig M I L O A\" likewise.", () -> {
            TwinJudge x = Check.one("aig 7 1 2 3 4\n0\n0\n0\n0\n0\n\1\1\1\1\1\1\1\1");
            int[] due = {7, 1, 2, 3, 4};
            for (int what = 0; what < 5; what++) {
                Check.due("many(0, " + what + ")", x.many(0, what), due[what]);
            }
            Check.fault(1, "ai^a 0 0 0 0 0\n");
            Check.fault(1, "aig^\n");
            Check.fault(1, "aig ^ 0 0 0 0 0\n");
            Check.fault(1, "aig 0 0 0 0^\n");
            Check.fault(1, "aig 0 0 0 0 0^ 0\n");
            Check.fault(1, "aig 0 0 0 0 0^\r\n");
            Check.fault(1, "aig 0 0 0 0 0^");
            Check.fine("aig 0 0 0 0 0\n");
        });
        sentence.holds(TERMS, "The inputs are the variables 1 .. I, the latches the L next ones, the ands the A next ones.",
            () -> {
            // And 4 is not latch 3 and not input 1, and 5 is and 4 and input 2; the latch takes input 2.
            TwinJudge x = Check.one("aig 5 2 1 0 2\n4\n\1\4\2\4");
            Check.due("value(0, 2, 1)", x.value(0, 2, 1), 1);
            Check.due("value(0, 4, 1)", x.value(0, 4, 1), 0);
            Check.due("value(0, 4, 2)", x.value(0, 4, 2), 1);
            Check.due("value(0, 8, 0)", x.value(0, 8, 0), 1);
            Check.due("value(0, 8, 1)", x.value(0, 8, 1), 0);
            Check.due("value(0, 10, 2)", x.value(0, 10, 2), 1);
            Check.due("value(0, 10, 0)", x.value(0, 10, 0), 0);
            x.step(2);
            Check.due("value(0, 6, 0)", x.value(0, 6, 0), 1);
            Check.due("value(0, 8, 0)", x.value(0, 8, 0), 0);
            // Without inputs the latches are the first ones, without latches the ands come next.
            TwinJudge latch = Check.one("aig 2 0 1 0 1\n3\n\1\1");
            latch.step(0);
            Check.due("value(0, 2, 0)", latch.value(0, 2, 0), 1);
            Check.due("value(0, 4, 0)", latch.value(0, 4, 0), 0);
            TwinJudge and = Check.one("aig 3 2 0 0 1\n\2\2");
            Check.due("value(0, 6, 3)", and.value(0, 6, 3), 1);
            Check.due("value(0, 6, 2)", and.value(0, 6, 2), 0);
        });
        sentence.holds(TERMS, "Then L lines with a literal (next), O lines with one;", () -> {
            TwinJudge x = Check.one("aig 2 0 2 2 0\n3\n2\n5\n2\n");
            Check.due("step(0)", x.step(0), 1);
            Check.due("state(0)", x.state(0), 1);
            Check.due("step(0)", x.step(0), 3);
            Check.due("state(0)", x.state(0), 2);
            Check.due("step(0)", x.step(0), 0);
            Check.due("state(0)", x.state(0), 1);
            // As many as there can be: the latches are 1 to 6, one takes another one's value, the first one 1.
            TwinJudge row = Check.one("aig 6 0 6 8 0\n1\n2\n4\n6\n8\n10\n2\n4\n6\n8\n10\n12\n13\n1\n");
            for (int n = 0; n <= 6; n++) {
                Check.due("state(0) behind " + n, row.state(0), (1 << n) - 1);
                for (int k = 0; k < 6; k++) {
                    Check.due("value(0, " + (2 * k + 2) + ", 0)", row.value(0, 2 * k + 2, 0), k < n ? 1 : 0);
                }
                Check.due("step(0)", row.step(0), (1 << n) - 1 + (n < 6 ? 64 : 0) + 128);
            }
            Check.fault(1, "aig 2 0 2 1 0\n3\n2\n^");
            Check.fault(1, "aig 1 0 1 0 0\n3\n^3\n");
            Check.fault(1, "aig 1 0 1 0 0\n2^ 3\n");
            Check.fault(1, "aig 1 0 1 0 0\n^\n");
            Check.fault(1, "aig 1 0 1 2 0\n3\n2\n^");
            Check.fault(1, "aig 1 0 1 1 0\n3\n2^ 2\n");
            Check.fault(1, "aig 1 0 1 1 0\n3\n^\n");
            // Inputs have no lines.
            Check.fine("aig 5 5 0 0 0\n");
            Check.fault(1, "aig 1 1 0 0 0\n^2\n");
        });
    }

    private static String delta(int delta, int width) {
        StringBuilder bytes = new StringBuilder();
        for (int n = 0; n < width; n++) {
            bytes.append((char) ((delta >> 7 * n & 127) + (n < width - 1 ? 128 : 0)));
        }
        return bytes.toString();
    }

    /** Variable 1 is an input, the last one an and of it and itself, and each other one an and that is 0. */
    private static String fan(int variables, int width) {
        StringBuilder file = new StringBuilder("aig " + variables + " 1 0 1 " + (variables - 1) + "\n" + 2 * variables + "\n");
        for (int v = 2; v <= variables; v++) {
            int first = v < variables ? 2 * v : 2 * v - 2;
            file.append(delta(first, Math.max(first > 127 ? 2 : 1, width))).append(delta(0, width));
        }
        return file.toString();
    }

    private void deltas() {
        sentence.holds(TERMS, "then for each and two DELTAS, of one to three bytes: seven bits each, the lowest first, 128 "
            + "added if another byte follows (more bytes than needed are fine):", () -> {
            for (int width = 1; width <= 3; width++) {
                // The last first delta is 126, 128 and more.
                for (int variables : new int[] {2, 3, 64, 65, 66, 97, 128, 151}) {
                    TwinJudge x = Check.one(fan(variables, width));
                    Check.due("step(1) with " + variables, x.step(1), 1);
                    Check.due("step(0) with " + variables, x.step(0), 0);
                    for (int v = 2; v < variables; v++) {
                        Check.due("value(0, " + 2 * v + ", 1)", x.value(0, 2 * v, 1), 0);
                    }
                }
                Check.fine("aig 1 0 0 0 1\n" + delta(2, width) + delta(0, width));
                Check.fault(1, "aig 1 0 0 0 1\n" + delta(2, width) + "^");
                Check.fault(1, "aig 1 0 0 0 1\n" + delta(2, width) + delta(0, width) + "^\0");
            }
            // The third byte's bits count too.
            Check.fault(3, "aig 1 0 0 0 1\n^\202\200\1\0");
            Check.fault(3, "aig 1 0 0 0 1\n^\377\377\177\0");
            // A byte 10 is a delta like another one.
            TwinJudge x = Check.one("aig 6 5 0 0 1\n\n\0");
            Check.due("value(0, 12, 1)", x.value(0, 12, 1), 1);
            Check.due("value(0, 12, 30)", x.value(0, 12, 30), 0);
        });
        sentence.holds(TERMS, "the and's literal 2 * v less the first delta is the first operand, this less the second "
            + "delta the second one.", () -> {
            for (int first = 1; first <= 6; first++) {
                for (int second = 0; second <= 6 - first; second++) {
                    TwinJudge x = Check.one("aig 3 2 0 0 1\n" + (char) first + (char) second);
                    for (int vector = 0; vector < 4; vector++) {
                        int due = x.value(0, 6 - first, vector) & x.value(0, 6 - first - second, vector);
                        Check.due("value(0, 6, " + vector + ") by " + first + ", " + second, x.value(0, 6, vector), due);
                    }
                }
            }
        });
    }

    private void symbols() {
        sentence.holds(TERMS, "Then, in both, any number of SYMBOLS: i, l or o, a number k, a blank,", () -> {
            for (String file : new String[] {TEXT, BINARY}) {
                Check.fine(file);
                Check.fine(file + "i0 a\n");
                Check.fine(file + "o0 a\nl0 a\ni0 a\n");
                for (char b = 0; b < 256; b++) {
                    if (b != 'i' && b != 'l' && b != 'o' && b != 'c') {
                        Check.fault(1, file + "^" + b + "0 a\n");
                    }
                }
                Check.fault(1, file + "i^ a\n");
                Check.fault(1, file + "i^ 0 a\n");
                Check.fault(1, file + "i0^\n");
                Check.fault(1, file + "i0^a\n");
                Check.fault(1, file + "i0^\ta\n");
                Check.fault(1, file + "i0 a\n^\n");
            }
            StringBuilder all = new StringBuilder("aig 11 5 6 8 0\n" + "0\n".repeat(14));
            int[] sizes = {5, 6, 8};
            for (int n = 0; n < 19; n++) {
                int kind = n < 5 ? 0 : n < 11 ? 1 : 2;
                all.append("ilo".charAt(kind)).append(n < 5 ? n : n < 11 ? n - 5 : n - 11).append(' ');
                all.append((char) ('A' + n)).append('\n');
            }
            TwinJudge x = Check.one(all.toString());
            int n = 0;
            for (int kind = 0; kind < 3; kind++) {
                for (int k = 0; k < sizes[kind]; k++) {
                    Check.due("symbol(0, " + kind + ", " + k + ", 0)", x.symbol(0, kind, k, 0), 'A' + n);
                    n++;
                }
            }
        });
        sentence.holds(TERMS, "a name of 1 to 40 bytes other than 10, the line's end:", () -> {
            for (int length = 1; length <= 40; length++) {
                TwinJudge x = Check.one(TEXT + "l0 " + "n".repeat(length) + "\n");
                Check.due("the last byte of " + length, x.symbol(0, 1, 0, length - 1), 'n');
                Check.due("behind " + length, x.symbol(0, 1, 0, length), -1);
                Check.fault(1, TEXT + "l0 " + "n".repeat(length) + "^");
            }
            Check.fault(1, TEXT + "l0 ^\n");
            Check.fault(1, TEXT + "l0 " + "n".repeat(40) + "^n\n");
            for (char b = 0; b < 256; b++) {
                if (b != '\n') {
                    TwinJudge x = Check.one(TEXT + "l0 a" + b + "\n");
                    Check.due("byte " + (int) b, x.symbol(0, 1, 0, 1), b);
                    Check.due("behind it", x.symbol(0, 1, 0, 2), -1);
                    Check.due("byte " + (int) b + " alone", Check.one(TEXT + "l0 " + b + "\n").symbol(0, 1, 0, 0), b);
                }
            }
        });
        sentence.holds(TERMS, "of input, latch or output k (from 0 on), for each at most once.", () -> {
            String file = "aag 5 2 3 1 0\n2\n4\n6 0\n8 0\n10 0\n0\n";
            TwinJudge x = Check.one(file + "i1 a\nl2 b\no0 c\ni0 d\nl0 e\nl1 f\n");
            int[][] due = {{'d', 'a'}, {'e', 'f', 'b'}, {'c'}};
            for (int kind = 0; kind < 3; kind++) {
                for (int k = 0; k < due[kind].length; k++) {
                    Check.due("symbol(0, " + kind + ", " + k + ", 0)", x.symbol(0, kind, k, 0), due[kind][k]);
                }
            }
            Check.fault(1, file + "i2^ a\n");
            Check.fault(1, file + "l3^ a\n");
            Check.fault(1, file + "o1^ a\n");
            for (String symbol : new String[] {"i0", "i1", "l0", "l2", "o0"}) {
                Check.fault(1, file + symbol + " a\n" + symbol + "^ a\n");
                Check.fault(1, file + symbol + " a\nl1 b\n" + symbol + "^ c\n");
            }
            Check.fault(1, "aag 0 0 0 0 0\ni0^ a\n");
            Check.fault(1, "aag 0 0 0 0 0\nl0^ a\n");
            Check.fault(1, "aag 0 0 0 0 0\no0^ a\n");
        });
    }

    private void comment() {
        sentence.holds(TERMS, "Then the file ends, or a line \"c\" comes (with its end), behind which there may be anything.",
            () -> {
            for (String file : new String[] {TEXT, BINARY, TEXT + "i0 a\n", BINARY + "o0 a\n"}) {
                Check.fine(file);
                Check.fine(file + "c\n");
                Check.fine(file + "c\nc");
                Check.fine(file + "c\n\n\0\377c\ni0 a\ni0 a\nx");
                Check.fine(file + "c\n" + "\0".repeat(6000 - file.length() - 2));
                Check.fault(1, file + "c^");
                Check.fault(1, file + "c^ \n");
                Check.fault(1, file + "c^c\n");
                Check.fault(1, file + "c^0 a\n");
                Check.fault(1, file + "c^\r\n");
                Check.fault(1, file + "^C\n");
                Check.fault(1, file + "^ c\n");
            }
            Check.due("a symbol behind it", Check.one(TEXT + "c\ni0 a\n").symbol(0, 0, 0, 0), -1);
            // A symbol behind "c" does not count as named before, nor does one ahead of it count anew.
            Check.due("a symbol ahead of it", Check.one(TEXT + "i0 a\nc\ni0 b\n").symbol(0, 0, 0, 0), 'a');
        });
    }
}
