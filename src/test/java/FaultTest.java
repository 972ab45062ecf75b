/** Promise 5: the faults and their places. */
public final class FaultTest {
    private static final String OKAY = "aag 3 1 1 1 1\n2\n4 6\n6\n6 2 5\n";

    public static void main(String[] args) {
        header();
        numbers();
        bounds();
        textLines();
        literals();
        orderOfFaults();
        binaryLines();
        deltas();
        symbols();
        comments();
        undefined();
        loops();
        otherWhat();
        everyCut();
        Check.finish();
    }

    private static void due(String file, int fault, int place) {
        Check.fault(file, fault, place);
    }

    private static void fine(String file) {
        due(file, 0, -1);
    }

    private static void header() {
        fine(OKAY);
        due("", 1, 0);
        due("b", 1, 0);
        due("Aag 0 0 0 0 0\n", 1, 0);
        due("a", 1, 1);
        due("abg 0 0 0 0 0\n", 1, 1);
        due("aa", 1, 2);
        due("aai 0 0 0 0 0\n", 1, 2);
        due("aig", 1, 3);
        due("aag\t0 0 0 0 0\n", 1, 3);
        due("aag  0 0 0 0 0\n", 1, 4);
        due("aag 0 0 0 0\n", 1, 11);
        due("aag 0 0 0 0 0 \n", 1, 13);
        due("aag 0 0 0 0 0 0\n", 1, 13);
        due("aag 0 0 0 0 0\r\n", 1, 13);
        due("aag 0 0 0 0 0", 1, 13);
        due("aag 0 -1 0 0 0\n", 1, 6);
        due(" aag 0 0 0 0 0\n", 1, 0);
    }

    private static void numbers() {
        due("aag 00 0 0 0 0\n", 1, 5);
        due("aag 01 0 0 0 0\n", 1, 5);
        due("aag 1 01 0 0 0\n2\n", 1, 7);
        due("aag 99999 0 0 0 0\n", 1, 8);
        due("aag 12345678 0 0 0 0\n", 1, 8);
        due("aag 9999 0 0 0 0\n", 2, 17);
        due("aag 9999x0 0 0 0\n", 1, 8);
        due("aag 1 1 0 0 0\n02\n", 1, 15);
        due("aag 1 1 0 0 0\n00002\n", 1, 15);
        due("aag 1 1 0 0 0\n20000\n", 1, 18);
        due("aag 1 0 0 1 0\n00\n", 1, 15);
        due("aag 1 0 0 1 0\n+0\n", 1, 14);
    }

    private static void bounds() {
        due("aag 201 0 0 0 0\n", 2, 16);
        fine("aag 200 0 0 0 0\n");
        due("aag 200 6 0 0 0\n", 2, 16);
        due("aag 200 0 7 0 0\n", 2, 16);
        due("aag 200 0 0 9 0\n", 2, 16);
        due("aag 200 0 0 0 151\n", 2, 18);
        due("aag 2 1 1 0 1\nxxx", 2, 14);
        due("aag 3 1 1 0 1\nxxx", 1, 14);
        due("aig 3 1 1 0 0\n", 2, 14);
        due("aig 1 1 1 0 0\n", 2, 14);
        due("aig 201 0 0 0 201\n", 2, 18);
        fine("aag 3 0 0 8 0\n0\n1\n0\n1\n0\n1\n0\n1\n");
        due("aag 9999 9999 9999 9999 9999\n", 2, 29);
    }

    private static void textLines() {
        due("aag 3 1 1 1 1\n2 \n4 6\n6\n6 2 5\n", 1, 15);
        due("aag 3 1 1 1 1\n2\n4\n6\n6 2 5\n", 1, 17);
        due("aag 3 1 1 1 1\n2\n4  6\n6\n6 2 5\n", 1, 18);
        due("aag 3 1 1 1 1\n2\n4 6 0\n6\n6 2 5\n", 1, 19);
        due("aag 3 1 1 1 1\n2\n4 6\n6 6\n6 2 5\n", 1, 21);
        due("aag 3 1 1 1 1\n2\n4 6\n6\n6 2\n", 1, 25);
        due("aag 3 1 1 1 1\n2\n4 6\n6\n6 2 5 2\n", 1, 27);
        due("aag 3 1 1 1 1\n2\n4 6\n6\n6\n", 1, 23);
        due("aag 3 1 1 1 1\n\n4 6\n6\n6 2 5\n", 1, 14);
        due("aag 3 1 1 1 1\n2\n4 6\n\n6 2 5\n", 1, 20);
        due("aag 3 1 1 1 1\n2\n4 6\n6\n6 2 5\n\n", 1, 28);
        due("aag 3 1 1 1 1\n2\n4 6\n6\n6 2 5\n8 2 4\n", 1, 28);
    }

    private static void literals() {
        due("aag 3 1 1 1 1\n8\n4 6\n6\n6 2 5\n", 3, 14);
        due("aag 3 1 1 1 1\n7\n4 6\n6\n6 2 5\n", 4, 14);
        due("aag 3 1 1 1 1\n0\n4 6\n6\n6 2 5\n", 4, 14);
        due("aag 3 1 1 1 1\n1\n4 6\n6\n6 2 5\n", 4, 14);
        due("aag 3 1 1 1 1\n2\n2 6\n6\n6 2 5\n", 4, 16);
        due("aag 3 1 1 1 1\n2\n5 6\n6\n6 2 5\n", 4, 16);
        due("aag 3 1 1 1 1\n2\n10 6\n6\n6 2 5\n", 3, 16);
        due("aag 3 1 1 1 1\n2\n4 8\n6\n6 2 5\n", 3, 18);
        fine("aag 3 1 1 1 1\n2\n4 7\n7\n6 2 5\n");
        due("aag 3 1 1 1 1\n2\n4 6\n8\n6 2 5\n", 3, 20);
        due("aag 3 1 1 1 1\n2\n4 6\n6\n4 2 5\n", 4, 22);
        due("aag 3 1 1 1 1\n2\n4 6\n6\n7 2 5\n", 4, 22);
        due("aag 3 1 1 1 1\n2\n4 6\n6\n9 2 5\n", 3, 22);
        due("aag 3 1 1 1 1\n2\n4 6\n6\n6 8 5\n", 3, 24);
        due("aag 3 1 1 1 1\n2\n4 6\n6\n6 2 9999\n", 3, 26);
        due("aag 3 2 0 0 1\n2\n2\n6 2 4\n", 4, 16);
        due("aag 3 1 0 0 2\n2\n6 2 2\n6 2 2\n", 4, 22);
    }

    /** A number's own fault, then 3 and 4 for it, then the byte behind it. */
    private static void orderOfFaults() {
        due("aag 3 1 1 1 1\n99998\n", 1, 18);
        due("aag 3 1 1 1 1\n9999x", 3, 14);
        due("aag 3 1 1 1 1\n9", 3, 14);
        due("aag 3 1 1 1 1\n3x", 4, 14);
        due("aag 3 1 1 1 1\n3", 4, 14);
        due("aag 3 1 1 1 1\n2x", 1, 15);
        due("aag 3 1 1 1 1\n2\n4 99\t", 3, 18);
        // An undefined variable counts only behind the whole file.
        due("aag 4 1 1 1 1\n2\n4 8\n6\n6 2 5\nz", 1, 28);
        due("aag 4 1 1 1 1\n2\n4 8\n6\n6 2 99\n", 3, 26);
        due("aag 4 1 0 0 2\n2\n6 6 6\n8 8 8\nc", 1, 29);
    }

    private static void binaryLines() {
        fine("aig 3 1 1 1 1\n6\n7\n\1\1");
        due("aig 3 1 1 1 1\n8\n7\n\1\1", 3, 14);
        due("aig 3 1 1 1 1\n6\n8\n\1\1", 3, 16);
        due("aig 3 1 1 1 1\n6 \n7\n\1\1", 1, 15);
        due("aig 3 1 1 1 1\n6\n\n\1\1", 1, 16);
        due("aig 3 1 1 1 1\n06\n7\n\1\1", 1, 15);
        due("aig 3 1 1 1 1\n4 6\n7\n\1\1", 1, 15);
        fine("aig 2 1 1 0 0\n5\n");
    }

    private static void deltas() {
        String start = "aig 3 1 1 1 1\n6\n7\n";
        due(start, 1, 18);
        due(start + "\0\0", 3, 18);
        due(start + "\7\0", 3, 18);
        fine(start + "\6\0");
        due(start + "\6\1", 3, 19);
        due(start + "\1", 1, 19);
        fine(start + "\1\5");
        due(start + "\1\6", 3, 19);
        fine(start + "\1\0");
        due(start + "\u0081", 1, 19);
        fine(start + "\u0081\0\u0081\0");
        fine(start + "\u0081\u0080\0\u0081\u0080\0");
        due(start + "\u0081\u0080\u0080", 1, 21);
        due(start + "\u0081\u0080\u0080\0\0", 1, 21);
        due(start + "\u0080\u0080\u0080\0\0", 1, 21);
        due(start + "\u0080\0\0", 3, 18);
        due(start + "\u0081\1\0", 3, 18);
        due(start + "\u0081\u0080\1\0", 3, 18);
        due(start + "\1\u0080\u0080\u0080\0", 1, 22);
        due(start + "\1\u0086\0", 3, 19);
        due(start + "\1\u00ff\u00ff\u007f", 3, 19);
        due(start + "\1\u0080", 1, 20);
        due(start + "\1\1\n", 1, 20);
    }

    private static String repeated(char c, int n) {
        return String.valueOf(c).repeat(n);
    }

    private static void symbols() {
        fine(OKAY + "i0 a\nl0 b\no0 c\n");
        fine(OKAY + "o0 c\ni0 a\n");
        fine(OKAY + "i0 " + repeated('x', 40) + "\n");
        due(OKAY + "i0 " + repeated('x', 41) + "\n", 1, 28 + 43);
        due(OKAY + "i0 " + repeated('x', 40), 1, 28 + 43);
        due(OKAY + "i0 " + repeated('x', 7), 1, 28 + 10);
        due(OKAY + "i0 \n", 1, 31);
        due(OKAY + "i0 ", 1, 31);
        due(OKAY + "i0", 1, 30);
        due(OKAY + "i", 1, 29);
        due(OKAY + "i 0 a\n", 1, 29);
        due(OKAY + "i0\n", 1, 30);
        due(OKAY + "i0a\n", 1, 30);
        due(OKAY + "i00 a\n", 1, 30);
        due(OKAY + "i1 a\n", 1, 30);
        due(OKAY + "i9999 a\n", 1, 33);
        due(OKAY + "i99999 a\n", 1, 33);
        due(OKAY + "l1 a\n", 1, 30);
        due(OKAY + "o1 a\n", 1, 30);
        due(OKAY + "i0 a\ni0 b\n", 1, 35);
        due(OKAY + "l0 a\ni0 a\nl0 a\n", 1, 40);
        due(OKAY + "a0 a\n", 1, 28);
        fine(OKAY + "i0  \n");
        fine(OKAY + "i0 \0\u00ff i0 \n");
        fine("aig 3 1 1 1 1\n6\n7\n\1\1o0 q\n");
        due("aig 3 1 1 1 1\n6\n7\n\1\1i1 q\n", 1, 22);
    }

    private static void comments() {
        fine(OKAY + "c\n");
        fine(OKAY + "c\nanything\0\nc");
        fine(OKAY + "i0 a\nc\ni0 a\n");
        due(OKAY + "c", 1, 29);
        due(OKAY + "c \n", 1, 29);
        due(OKAY + "cc\n", 1, 29);
        due(OKAY + "C\n", 1, 28);
        fine("aig 0 0 0 0 0\nc\n");
    }

    private static void undefined() {
        due("aag 9 1 1 1 1\n2\n4 8\n6\n6 2 5\n", 5, 18);
        due("aag 9 1 1 1 1\n2\n4 6\n19\n6 2 5\n", 5, 20);
        due("aag 9 1 1 1 1\n2\n4 6\n6\n6 10 12\n", 5, 24);
        due("aag 9 1 1 1 1\n2\n4 6\n6\n6 2 12\n", 5, 26);
        due("aag 9 1 1 1 1\n2\n4 9\n8\n6 11 12\n", 5, 18);
        due("aag 9 1 1 1 1\n2\n4 6\n8\n6 11 12\ni0 a\nc\n", 5, 20);
        fine("aag 9 1 1 1 1\n18\n4 1\n0\n6 19 0\n");
        // Ahead of a loop.
        due("aag 9 0 0 1 1\n10\n6 6 6\n", 5, 14);
    }

    private static void loops() {
        due("aag 1 0 0 0 1\n2 2 2\n", 6, 1);
        due("aag 1 0 0 0 1\n2 3 0\n", 6, 1);
        due("aag 1 0 0 0 1\n2 0 3\n", 6, 1);
        due("aag 4 1 0 0 3\n2\n4 6 2\n6 8 2\n8 7 2\n", 6, 3);
        due("aag 4 1 0 0 3\n2\n8 7 2\n4 6 2\n6 8 2\n", 6, 3);
        due("aag 5 1 0 0 4\n2\n10 9 2\n8 2 10\n6 4 2\n4 2 7\n", 6, 2);
        due("aag 5 0 0 0 5\n2 4 4\n4 6 6\n6 8 8\n8 10 10\n10 5 5\n", 6, 2);
        due("aag 5 0 0 0 4\n2 10 10\n10 4 4\n4 6 6\n6 6 6\n", 6, 3);
        // A latch's next may hang on the latch.
        fine("aag 2 0 1 0 1\n2 4\n4 2 3\n");
        due("aag 150 0 0 0 150\n" + chain(150), 6, 150);
        due("aag 151 0 0 0 150\n" + ring(150), 6, 2);
    }

    /** Each and hangs on the next one, the last one on itself. */
    private static String chain(int n) {
        StringBuilder lines = new StringBuilder();
        for (int v = 1; v <= n; v++) {
            int operand = 2 * Math.min(n, v + 1);
            lines.append(2 * v).append(' ').append(operand).append(' ').append(operand + 1).append('\n');
        }
        return lines.toString();
    }

    private static String ring(int n) {
        StringBuilder lines = new StringBuilder();
        for (int v = n + 1; v >= 2; v--) {
            int operand = v == n + 1 ? 4 : 2 * (v + 1);
            lines.append(2 * v).append(' ').append(operand).append(" 1\n");
        }
        return lines.toString();
    }

    private static void otherWhat() {
        TwinJudge x = new TwinJudge();
        Check.load(x, 0, "aag 2 0");
        Check.due("fault(2)", x.fault(2), -1);
        Check.due("fault(-1)", x.fault(-1), -1);
        Check.due("fault(MIN)", x.fault(Integer.MIN_VALUE), -1);
        Check.due("fault(0)", x.fault(0), 1);
        Check.due("fault(1)", x.fault(1), 7);
    }

    /** A file that is too short has its fault at its length. */
    private static void everyCut() {
        for (int n = 0; n < OKAY.length(); n++) {
            due(OKAY.substring(0, n), 1, n);
        }
        String binary = "aig 3 1 1 1 1\n6\n7\n\1\u0081\0";
        for (int n = 0; n < binary.length(); n++) {
            due(binary.substring(0, n), 1, n);
        }
    }
}
