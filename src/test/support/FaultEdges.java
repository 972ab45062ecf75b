/** The sentences of "Terms" on the FAULTS of a file, and their places. */
final class FaultEdges {
    private static final String TERMS = "Terms";
    private static final String TEXT = FileEdges.TEXT;
    private static final String BINARY = FileEdges.BINARY;
    /** Two bytes for the and's deltas must follow: its literal is 6. */
    private static final String AHEAD_OF_DELTAS = BINARY.substring(0, BINARY.length() - 2);

    private final Sentence sentence;

    FaultEdges(Sentence sentence) {
        this.sentence = sentence;
    }

    void all() {
        order();
        syntax();
        bounds();
        tooHigh();
        notDefining();
        undefined();
        loops();
    }

    private void order() {
        sentence.holds(TERMS, "FAULTS, the first one that is met by reading", () -> {
            // In the first line, and behind it.
            Check.fault(1, "aag 201 9 9 9 999^x\n");
            Check.fault(1, "aag 201 9 9 9 999^");
            Check.fault(2, "aag 0 1 0 0 0\n^x");
            Check.fault(2, "aag 201 0 0 0 0\n^z");
            Check.fault(2, "aag 201 0 0 0 0\n^");
            // In a line, and in one behind it; in this order and the other one.
            Check.fault(3, "aag 2 2 0 0 0\n^6\n3\n");
            Check.fault(4, "aag 2 2 0 0 0\n^3\n6\n");
            Check.fault(1, "aag 2 2 0 0 0\n2^x3\n6\n");
            Check.fault(4, "aag 2 2 0 0 0\n2\n^3x");
            Check.fault(4, "aag 2 1 1 0 0\n2\n^2 6\n");
            Check.fault(3, "aag 2 1 1 0 0\n2\n^6 9\n");
            Check.fault(3, "aag 2 1 0 1 1\n2\n^6\n4 9 9\n");
            Check.fault(4, "aag 2 1 0 1 1\n2\n5\n^2 9 9\n");
            Check.fault(3, "aag 2 1 0 1 1\n2\n5\n4 ^9 8\n");
            Check.fault(3, "aag 2 1 0 1 1\n2\n5\n4 4 ^8\nz");
            Check.fault(3, AHEAD_OF_DELTAS + "^\0\200\200\200");
            Check.fault(1, AHEAD_OF_DELTAS + "\200\200\200^\377");
            Check.fault(3, AHEAD_OF_DELTAS + "\1^\6z");
            Check.fault(1, AHEAD_OF_DELTAS + "\1\5^z");
            Check.fault(1, TEXT + "i0^\ni0 a\n");
            Check.fault(1, TEXT + "i0 ^\nx");
            Check.fault(1, TEXT + "i0 a\n^x");
        });
        sentence.holds(TERMS, "(a number's own, then 3 and 4 for it, then the byte behind it):", () -> {
            // Its own ahead of 3 and of 4.
            Check.fault(1, "aag 2 1 0 0 0\n9999^9\n");
            Check.fault(1, "aag 2 1 0 0 0\n1000^0x");
            Check.fault(1, "aag 2 1 0 0 0\n0^0\n");
            Check.fault(1, "aag 2 1 0 0 0\n0^2\n");
            Check.fault(1, "aag 2 1 0 0 0\n^x");
            Check.fault(1, "aag 2 0 0 1 0\n9999^9\n");
            Check.fault(1, "aag 2 0 0 0 1\n4 9999^9 0\n");
            Check.fault(1, "aig 1 0 1 0 0\n9999^9\n");
            // 3 ahead of 4.
            Check.fault(3, "aag 2 1 0 0 0\n^7\n");
            Check.fault(3, "aag 0 0 0 1 0\n^3\n");
            Check.fault(4, "aag 2 1 0 0 0\n^5\n");
            // 3 ahead of the byte behind, and of the file's end.
            Check.fault(3, "aag 2 1 0 0 0\n^6x");
            Check.fault(3, "aag 2 1 0 0 0\n^6");
            Check.fault(3, "aag 2 1 1 0 0\n2\n4 ^6 x");
            Check.fault(3, "aag 2 1 0 1 0\n2\n^9999 x");
            Check.fault(3, "aag 2 1 0 0 1\n2\n4 ^6\n");
            Check.fault(3, "aag 2 1 0 0 1\n2\n4 2 ^6");
            Check.fault(3, "aig 1 0 1 0 0\n^4");
            Check.fault(3, "aig 1 0 1 1 0\n3\n^4 ");
            // 4 ahead of the byte behind, and of the file's end: 12 that is cut is 1.
            Check.fault(4, "aag 9 1 0 0 0\n^3x");
            Check.fault(4, "aag 9 1 0 0 0\n^0\t");
            Check.fault(4, "aag 9 1 0 0 0\n^1");
            Check.fault(4, "aag 9 1 1 0 0\n2\n^2\n");
            Check.fault(4, "aag 9 1 0 0 1\n2\n^2\n");
            // A symbol's k: its own, then whether it is there, then what is behind it.
            Check.fault(1, TEXT + "i0^0 a\n");
            Check.fault(1, TEXT + "i9999^9 a\n");
            Check.fault(1, TEXT + "i1^x");
        });
    }

    private void syntax() {
        sentence.holds(TERMS, "1 SYNTAX: at the first byte that is not as told", () -> {
            Check.fault(1, "^\0");
            Check.fault(1, "a^bg 0 0 0 0 0\n");
            Check.fault(1, "aag 1 0 0 0^\t0\n");
            Check.fault(1, "aag 3 1 1 1 1\n2\n4 6\n7\n6 5 2\n^6");
            Check.fault(1, "aag 3 1 1 1 1\n2\n4 6\n7\n6 5^\n2\n");
            Check.fault(1, BINARY + "^\0");
            Check.fault(1, BINARY + "^\n");
            Check.fault(1, TEXT + "i0^x");
        });
        sentence.holds(TERMS, "(the length, if the file is too short;", () -> {
            Check.fault("", 1, 0);
            for (String whole : new String[] {TEXT, BINARY}) {
                String[] parts = {whole, "i0 ab\n", "l0 c\n", "o0 " + "d".repeat(40) + "\n", "c\n"};
                String file = "";
                for (String part : parts) {
                    for (int n = file.isEmpty() ? 0 : 1; n < part.length(); n++) {
                        Check.fault(file + part.substring(0, n), 1, file.length() + n);
                    }
                    file += part;
                    Check.fine(file);
                }
            }
            // What a longer file had behind it does not count.
            for (String whole : new String[] {TEXT + "i0 ab\nc\n", BINARY + "i0 ab\nc\n"}) {
                for (int n : new int[] {0, 1, 13, 14, 17, 19, whole.length() - 4, whole.length() - 3, whole.length() - 1}) {
                    TwinJudge x = Check.one(whole);
                    Check.due("load(0) of " + n + " bytes", Check.load(x, 0, whole.substring(0, n)), -1);
                    Check.due("fault(0) of " + n + " bytes", x.fault(0), 1);
                    Check.due("fault(1) of " + n + " bytes", x.fault(1), n);
                }
            }
            String wide = BINARY.replace("\1\3", "\201\200\0\203\200\0");
            for (int n = 0; n < wide.length(); n++) {
                Check.fault(wide.substring(0, n), 1, n);
            }
            Check.fine(wide);
        });
        sentence.holds(TERMS, "of a number the digit that is too much;", () -> {
            for (String number : new String[] {"0^0", "0^7", "1000^0", "1234^56", "9999^99999999"}) {
                Check.fault(1, "aag " + number + " 0 0 0 0\n");
                Check.fault(1, "aag 9 0 0 " + number + " 0\n");
                Check.fault(1, "aag 9 1 0 0 0\n" + number + "\n");
                Check.fault(1, "aag 9 0 1 0 0\n" + number + " 2\n");
                Check.fault(1, "aag 9 0 1 0 0\n2 " + number + "\n");
                Check.fault(1, "aag 9 0 0 1 0\n" + number + "\n");
                Check.fault(1, "aag 9 0 0 0 1\n" + number + " 0 0\n");
                Check.fault(1, "aag 9 0 0 0 1\n2 " + number + " 0\n");
                Check.fault(1, "aag 9 0 0 0 1\n2 0 " + number + "\n");
                Check.fault(1, TEXT + "o" + number + " a\n");
                Check.fault(1, "aag 9 0 0 1 0\n" + number);
            }
        });
        sentence.holds(TERMS, "of a symbol whose k is not there, or was named before, the byte behind the number;", () -> {
            for (String rest : new String[] {" a\n", "", "\n", "x", " ", " \n"}) {
                for (String symbol : new String[] {"i1", "l1", "o1", "i5", "l6", "o8", "i10", "l255", "o256", "i9999"}) {
                    Check.fault(1, TEXT + symbol + "^" + rest);
                    Check.fault(1, BINARY + symbol + "^" + rest);
                }
                for (String symbol : new String[] {"i0", "l0", "o0"}) {
                    Check.fault(1, TEXT + symbol + " a\n" + symbol + "^" + rest);
                    Check.fault(1, BINARY + symbol + " a\n" + symbol + "^" + rest);
                }
            }
            // As many as there can be, and one more.
            String full = "aig 11 5 6 8 0\n" + "0\n".repeat(14);
            Check.fine(full + "i4 a\nl5 a\no7 a\n");
            Check.fault(1, full + "i5^ a\n");
            Check.fault(1, full + "l6^ a\n");
            Check.fault(1, full + "o8^ a\n");
        });
        sentence.holds(TERMS, "a name's 41st byte, or the line's end if it is empty;", () -> {
            for (String file : new String[] {TEXT, BINARY}) {
                Check.fine(file + "o0 " + "x".repeat(40) + "\n");
                Check.fault(1, file + "o0 " + "x".repeat(40) + "^x\n");
                Check.fault(1, file + "o0 " + "x".repeat(40) + "^ \n");
                Check.fault(1, file + "o0 " + "x".repeat(40) + "^\0");
                Check.fault(1, file + "o0 " + "x".repeat(40) + "^" + "x".repeat(300));
                Check.fault(1, file + "o0 ^\n");
                Check.fault(1, file + "o0 ^\nl0 a\n");
                Check.fine(file + "o0 x\n");
            }
        });
        sentence.holds(TERMS, "a delta's fourth byte, so to say behind three with 128).", () -> {
            for (String three : new String[] {"\201\200\200", "\200\200\200", "\377\377\377"}) {
                for (String rest : new String[] {"\0", "\200", "\1\1", ""}) {
                    Check.fault(1, AHEAD_OF_DELTAS + three + "^" + rest);
                    Check.fault(1, AHEAD_OF_DELTAS + "\1" + three + "^" + rest);
                    Check.fault(1, AHEAD_OF_DELTAS + "\201\200\0" + three + "^" + rest);
                }
            }
            Check.fine(AHEAD_OF_DELTAS + "\201\200\0\201\200\0");
        });
    }

    private void bounds() {
        sentence.holds(TERMS, "2 BOUNDS, at the byte behind the first line:", () -> {
            Check.fault(2, "aag 201 0 0 0 0\n^");
            Check.fault(2, "aag 201 0 0 0 0\n^aag");
            Check.fault(2, "aag 9999 9999 9999 9999 9999\n^2\n");
            Check.fault(2, "aig 9999 9999 9999 9999 9999\n^2\n");
            Check.fault(2, "aag 0 1 0 0 0\n^2\n");
        });
        sentence.holds(TERMS, "M above 200,", () -> {
            Check.fine("aag 200 0 0 0 0\n");
            Check.fine("aag 199 0 0 0 0\n");
            Check.fault(2, "aag 201 0 0 0 0\n^");
            Check.fault(2, "aag 9999 0 0 0 0\n^");
            Check.fault(2, "aag 256 0 0 0 0\n^");
        });
        sentence.holds(TERMS, "I above 5,", () -> {
            Check.fine("aag 9 5 0 0 0\n2\n4\n6\n8\n10\n");
            Check.fault(2, "aag 9 6 0 0 0\n^2\n4\n6\n8\n10\n12\n");
            Check.fine("aig 5 5 0 0 0\n");
            Check.fault(2, "aig 6 6 0 0 0\n^");
        });
        sentence.holds(TERMS, "L above 6,", () -> {
            Check.fine("aag 9 0 6 0 0\n2 0\n4 0\n6 0\n8 0\n10 0\n12 0\n");
            Check.fault(2, "aag 9 0 7 0 0\n^2 0\n4 0\n6 0\n8 0\n10 0\n12 0\n14 0\n");
            Check.fine("aig 6 0 6 0 0\n0\n0\n0\n0\n0\n0\n");
            Check.fault(2, "aig 7 0 7 0 0\n^0\n0\n0\n0\n0\n0\n0\n");
        });
        sentence.holds(TERMS, "O above 8,", () -> {
            Check.fine("aag 0 0 0 8 0\n" + "1\n".repeat(8));
            Check.fault(2, "aag 0 0 0 9 0\n^" + "1\n".repeat(9));
            Check.fine("aig 0 0 0 8 0\n" + "1\n".repeat(8));
            Check.fault(2, "aig 0 0 0 9 0\n^" + "1\n".repeat(9));
        });
        sentence.holds(TERMS, "A above 150,", () -> {
            StringBuilder lines = new StringBuilder();
            for (int v = 1; v <= 150; v++) {
                lines.append(2 * v).append(" 0 0\n");
            }
            Check.fine("aag 200 0 0 0 150\n" + lines);
            Check.fault(2, "aag 200 0 0 0 151\n^" + lines + "302 0 0\n");
            Check.fine("aig 150 0 0 0 150\n" + "\1\1".repeat(150));
            Check.fault(2, "aig 151 0 0 0 151\n^" + "\1\1".repeat(151));
        });
        sentence.holds(TERMS, "M less than I + L + A,", () -> {
            Check.fine(TEXT);
            Check.fine(TEXT.replace("aag 3", "aag 4"));
            Check.fault(2, "aag 2 1 1 1 1\n^2\n4 6\n7\n6 5 2\n");
            Check.fault(2, "aag 0 1 0 0 0\n^");
            Check.fault(2, "aag 0 0 1 0 0\n^");
            Check.fault(2, "aag 0 0 0 0 1\n^");
            Check.fault(2, "aag 160 5 6 0 150\n^");
            // The outputs do not count.
            Check.fine("aag 0 0 0 1 0\n0\n");
            Check.fault(1, "aag 161 5 6 8 150\n^");
        });
        sentence.holds(TERMS, "or in a binary file not just that.", () -> {
            Check.fine(BINARY);
            Check.fault(2, "aig 2 1 1 1 1\n^6\n7\n\1\3");
            Check.fault(2, "aig 4 1 1 1 1\n^6\n7\n\1\3");
            Check.fault(2, "aig 1 0 0 0 0\n^");
            Check.fault(2, "aig 0 1 0 0 0\n^");
            Check.fault(2, "aig 200 5 6 8 150\n^");
            Check.fault(1, "aig 161 5 6 8 150\n^");
            Check.fault(2, "aig 162 5 6 8 150\n^");
        });
    }

    private void tooHigh() {
        sentence.holds(TERMS, "3 a literal above 2 * M + 1;", () -> {
            // Each place in turn: at most 9 with M of 4.
            Check.fine("aag 4 1 1 1 1\n8\n4 9\n9\n6 9 9\n");
            Check.fault(3, "aag 4 1 1 1 1\n^10\n4 9\n9\n6 9 9\n");
            Check.fault(3, "aag 4 1 1 1 1\n2\n^10 9\n9\n6 9 9\n");
            Check.fault(3, "aag 4 1 1 1 1\n8\n4 ^10\n9\n6 9 9\n");
            Check.fault(3, "aag 4 1 1 1 1\n8\n4 9\n^10\n6 9 9\n");
            Check.fault(3, "aag 4 1 1 1 1\n8\n4 9\n9\n^10 9 9\n");
            Check.fault(3, "aag 4 1 1 1 1\n8\n4 9\n9\n6 ^10 9\n");
            Check.fault(3, "aag 4 1 1 1 1\n8\n4 9\n9\n6 9 ^10\n");
            Check.fault(3, "aag 4 1 1 1 1\n8\n4 9\n^9999\n6 9 9\n");
            // The least and the greatest M.
            Check.fine("aag 0 0 0 2 0\n0\n1\n");
            Check.fault(3, "aag 0 0 0 2 0\n0\n^2\n");
            Check.fine("aag 200 1 0 1 0\n400\n401\n");
            Check.fault(3, "aag 200 1 0 1 0\n400\n^402\n");
            Check.fault(3, "aag 200 1 0 1 0\n^402\n400\n");
            Check.fine("aig 2 1 1 1 0\n5\n5\n");
            Check.fault(3, "aig 2 1 1 1 0\n^6\n5\n");
            Check.fault(3, "aig 2 1 1 1 0\n5\n^6\n");
        });
        sentence.holds(TERMS, "a first delta of 0 or above 2 * v;", () -> {
            for (int first = 1; first <= 6; first++) {
                Check.fine(AHEAD_OF_DELTAS + (char) first + "\0");
            }
            Check.fault(3, AHEAD_OF_DELTAS + "^\0\0");
            Check.fault(3, AHEAD_OF_DELTAS + "^\0\1");
            Check.fault(3, AHEAD_OF_DELTAS + "^\200\0\0");
            Check.fault(3, AHEAD_OF_DELTAS + "^\200\200\0\0");
            Check.fault(3, AHEAD_OF_DELTAS + "^\7\0");
            Check.fault(3, AHEAD_OF_DELTAS + "^\177\0");
            Check.fault(3, AHEAD_OF_DELTAS + "^\207\0\0");
            Check.fault(3, AHEAD_OF_DELTAS + "^\0");
            // Of each and its own literal: 4, then 6.
            Check.fine("aig 3 1 0 0 2\n\4\0\6\0");
            Check.fault(3, "aig 3 1 0 0 2\n^\5\0\6\0");
            Check.fault(3, "aig 3 1 0 0 2\n\4\0^\7\0");
            Check.fault(3, "aig 3 1 0 0 2\n\4\0^\0\0");
        });
        sentence.holds(TERMS, "a second one above the first operand: its first byte.", () -> {
            for (int first = 1; first <= 6; first++) {
                for (int second = 0; second <= 6 - first; second++) {
                    Check.fine(AHEAD_OF_DELTAS + (char) first + (char) second);
                }
                Check.fault(3, AHEAD_OF_DELTAS + (char) first + "^" + (char) (7 - first));
                Check.fault(3, AHEAD_OF_DELTAS + (char) first + "^" + (char) (128 + 7 - first) + "\200\0");
                Check.fault(3, AHEAD_OF_DELTAS + (char) (128 + first) + "\0^" + (char) (7 - first));
            }
            Check.fault(3, AHEAD_OF_DELTAS + "\1^\377\377\177");
        });
    }

    private void notDefining() {
        sentence.holds(TERMS, "4 a literal that is to define is 0, 1 or odd,", () -> {
            for (String bad : new String[] {"^0", "^1", "^3", "^5", "^7", "^9", "^19"}) {
                Check.fault(4, "aag 9 1 1 1 1\n" + bad + "\n4 6\n6\n6 2 5\n");
                Check.fault(4, "aag 9 1 1 1 1\n2\n" + bad + " 6\n6\n6 2 5\n");
                Check.fault(4, "aag 9 1 1 1 1\n2\n4 6\n6\n" + bad + " 2 5\n");
            }
            Check.fault(4, "aag 1 1 0 0 0\n^0\n");
            Check.fine("aag 9 1 1 1 1\n18\n16 2\n2\n2 18 16\n");
        });
        sentence.holds(TERMS, "or its variable was defined before: its first byte.", () -> {
            // As an input, a latch, an and; by an input, a latch, an and.
            Check.fault(4, "aag 9 2 1 0 2\n2\n^2\n6 0\n8 0 0\n10 0 0\n");
            Check.fault(4, "aag 9 2 1 0 2\n2\n4\n^2 0\n8 0 0\n10 0 0\n");
            Check.fault(4, "aag 9 2 1 0 2\n2\n4\n^4 0\n8 0 0\n10 0 0\n");
            Check.fault(4, "aag 9 2 2 0 2\n2\n4\n6 0\n^6 0\n8 0 0\n10 0 0\n");
            Check.fault(4, "aag 9 2 1 0 2\n2\n4\n6 0\n^2 0 0\n10 0 0\n");
            Check.fault(4, "aag 9 2 1 0 2\n2\n4\n6 0\n^6 0 0\n10 0 0\n");
            Check.fault(4, "aag 9 2 1 0 2\n2\n4\n6 0\n8 0 0\n^8 0 0\n");
            Check.fault(4, "aag 9 2 1 0 2\n2\n4\n6 0\n8 0 0\n^4 0 0\n");
            Check.fault(4, "aag 200 2 0 0 0\n400\n^400\n");
            // What an earlier file defined does not count.
            TwinJudge x = Check.one("aag 9 1 0 0 0\n2\n");
            Check.load(x, 0, "aag 9 1 0 0 0\n2\nx");
            Check.due("load(0)", Check.load(x, 0, "aag 9 1 0 0 0\n2\n"), 0);
            // A use is no definition.
            Check.fine("aag 9 0 1 1 1\n2 4\n4\n4 2 2\n");
        });
    }

    private void undefined() {
        sentence.holds(TERMS, "Without these: 5 a next, an output or an operand whose variable is defined nowhere:", () -> {
            Check.fine("aag 9 1 1 1 1\n2\n4 6\n7\n6 5 2\n");
            for (String literal : new String[] {"8", "9", "18", "19"}) {
                Check.fault(5, "aag 9 1 1 1 1\n2\n4 ^" + literal + "\n7\n6 5 2\n");
                Check.fault(5, "aag 9 1 1 1 1\n2\n4 6\n^" + literal + "\n6 5 2\n");
                Check.fault(5, "aag 9 1 1 1 1\n2\n4 6\n7\n6 ^" + literal + " 2\n");
                Check.fault(5, "aag 9 1 1 1 1\n2\n4 6\n7\n6 5 ^" + literal + "\n");
            }
            // The constants need no definition; a variable may have one behind its use, or none and no use.
            Check.fine("aag 9 1 1 1 1\n2\n4 0\n1\n6 1 0\n");
            Check.fine("aag 9 0 0 1 1\n19\n18 1 1\n");
            Check.fine("aag 200 0 0 0 0\n");
            // Without faults 1 to 4 alone, though they may stand behind it.
            Check.fault(1, "aag 9 0 0 1 0\n8\n^x");
            Check.fault(1, "aag 9 0 0 1 0\n8\nc^");
            Check.fault(3, "aag 9 0 0 2 0\n8\n^20\n");
            Check.fault(4, "aag 9 0 0 1 1\n8\n^3 0 0\n");
            Check.fault(1, "aag 9 1 0 1 0\n2\n8\ni0 a\ni0^ a\n");
            Check.fault(5, "aag 9 1 0 1 0\n2\n^8\ni0 a\nc\nx");
        });
        sentence.holds(TERMS, "the first byte (of a delta: its) of the first one in the file.", () -> {
            Check.fault(5, "aag 99 1 1 1 1\n2\n4 ^19\n18\n6 198 199\n");
            Check.fault(5, "aag 99 1 1 1 1\n2\n4 6\n^199\n6 198 8\n");
            Check.fault(5, "aag 99 1 1 1 1\n2\n4 6\n7\n6 ^198 8\n");
            Check.fault(5, "aag 99 1 2 2 2\n2\n4 6\n8 ^190\n7\n9\n6 5 2\n10 8 8\n");
            Check.fault(5, "aag 99 1 2 2 2\n2\n4 6\n8 10\n7\n^12\n6 5 2\n10 8 8\n");
            Check.fault(5, "aag 99 1 2 2 2\n2\n4 6\n8 10\n7\n10\n6 5 2\n10 8 ^12\n");
            // A delta cannot lead to such a one: all of a binary file's variables are defined.
            Check.fine("aig 3 1 1 0 1\n7\n\1\5");
        });
    }

    private static void loop(String file, int variable) {
        Check.fault(file, 6, variable);
    }

    private void loops() {
        sentence.holds(TERMS, "Without these: 6 the ands hang on themselves:", () -> {
            loop("aag 1 0 0 0 1\n2 2 2\n", 1);
            loop("aag 1 0 0 0 1\n2 3 3\n", 1);
            loop("aag 1 0 0 0 1\n2 1 2\n", 1);
            // Though an operand of 0 makes it 0.
            loop("aag 1 0 0 0 1\n2 2 0\n", 1);
            loop("aag 1 0 0 0 1\n2 0 3\n", 1);
            loop("aag 200 0 0 0 2\n400 398 1\n398 400 1\n", 199);
            // A latch or an input in between does not count, nor that an and stands ahead of its operands.
            Check.fine("aag 2 0 1 1 1\n2 4\n4\n4 2 3\n");
            Check.fine("aag 4 1 0 0 3\n2\n8 6 4\n6 4 2\n4 2 2\n");
            // Faults 1 to 5 come ahead of it, wherever they stand.
            Check.fault(5, "aag 9 0 0 0 2\n2 2 2\n4 4 ^18\n");
            Check.fault(1, "aag 9 0 0 0 1\n2 2 2\n^x");
            Check.fault(3, "aag 9 0 0 0 2\n2 2 2\n4 ^20 2\n");
            Check.fault(4, "aag 9 0 0 0 2\n2 2 2\n^2 2 2\n");
        });
        sentence.holds(TERMS, "the lowest variable from which one comes, through operands, to itself again (its number in place "
            + "of a byte).", () -> {
            // Two loops; and one that hangs on a loop but is not in it.
            loop("aag 9 0 0 0 4\n18 16 16\n16 18 18\n8 6 6\n6 8 8\n", 3);
            loop("aag 9 0 0 0 4\n8 6 6\n6 8 8\n18 16 16\n16 18 18\n", 3);
            loop("aag 9 0 0 0 3\n2 4 4\n4 6 6\n6 6 6\n", 3);
            loop("aag 9 0 0 0 3\n2 1 4\n4 1 6\n6 1 5\n", 2);
            loop("aag 9 0 0 0 3\n2 4 1\n4 6 1\n6 5 1\n", 2);
            // Through the first operand, the second one, both by turns; and what hangs on nothing.
            loop("aag 9 1 0 0 4\n2\n4 2 2\n6 8 4\n8 4 10\n10 7 4\n", 3);
            loop("aag 9 1 0 0 3\n2\n10 2 8\n8 2 6\n6 2 10\n", 3);
            StringBuilder ring = new StringBuilder("aag 200 0 0 0 150\n");
            for (int v = 200; v > 50; v--) {
                ring.append(2 * v).append(' ').append(v == 51 ? 400 : 2 * v - 2).append(" 1\n");
            }
            loop(ring.toString(), 51);
            StringBuilder tail = new StringBuilder("aag 200 0 0 0 150\n");
            for (int v = 51; v <= 200; v++) {
                tail.append(2 * v).append(' ').append(v == 200 ? 400 : 2 * v + 2).append(" 1\n");
            }
            loop(tail.toString(), 200);
        });
    }
}
