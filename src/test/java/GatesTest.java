/** Promise 12: gates. */
public final class GatesTest {
    private static final String EMPTY = "aag 2 2 0 0 0\n2\n4\n";

    public static void main(String[] args) {
        oneCircuit();
        acrossCircuits();
        notMatching();
        most();
        Check.finish();
    }

    private static void due(String lines, int ands, int want) {
        TwinJudge x = Check.both("aag 40 2 1 0 " + ands + "\n2\n4\n6 0\n" + lines, EMPTY);
        Check.due("gates() of " + lines.replace('\n', ','), x.gates(), want);
        TwinJudge y = Check.both(EMPTY, "aag 40 2 1 0 " + ands + "\n2\n4\n6 0\n" + lines);
        Check.due("gates() of circuit 1 with " + lines.replace('\n', ','), y.gates(), want);
    }

    private static void oneCircuit() {
        due("", 0, 0);
        due("8 2 4\n", 1, 1);
        due("8 0 4\n", 1, 0);
        due("8 4 0\n", 1, 0);
        due("8 4 5\n", 1, 0);
        due("8 5 4\n", 1, 0);
        due("8 1 4\n", 1, 0);
        due("8 4 1\n", 1, 0);
        due("8 4 4\n", 1, 0);
        due("8 5 5\n", 1, 0);
        due("8 2 4\n10 2 4\n", 2, 1);
        due("8 2 4\n10 4 2\n", 2, 1);
        due("8 2 4\n10 5 2\n", 2, 2);
        due("8 2 4\n10 3 5\n", 2, 2);
        // What an and became counts in its stead.
        due("8 2 2\n10 8 4\n12 2 4\n", 3, 1);
        due("8 3 3\n10 9 4\n12 2 4\n", 3, 1);
        due("8 2 3\n10 8 4\n12 9 4\n14 12 2\n16 2 4\n", 5, 1);
        due("8 2 4\n10 2 4\n12 8 11\n14 8 10\n16 9 10\n", 5, 1);
        due("8 2 4\n10 4 2\n12 8 6\n14 6 10\n16 7 10\n", 5, 3);
        // A gate that follows from others is still one.
        due("8 2 4\n10 8 2\n12 8 3\n", 3, 3);
        // In whatever order they stand in the file.
        due("16 14 14\n14 12 10\n12 2 4\n10 4 2\n", 4, 1);
    }

    private static void acrossCircuits() {
        String first = "aag 6 2 1 0 3\n2\n4\n6 0\n8 2 4\n10 8 6\n12 5 3\n";
        TwinJudge x = Check.both(first, first);
        Check.due("gates(): inputs are shared, latches are not", x.gates(), 4);
        // Input 0 is variable 2 there.
        Check.load(x, 1, "aag 6 2 1 0 3\n4\n2\n6 0\n8 2 5\n10 8 6\n12 5 3\n");
        Check.due("gates()", x.gates(), 5);
        Check.load(x, 1, "aag 6 2 0 0 1\n4\n2\n8 2 4\n");
        Check.due("gates() behind a load", x.gates(), 3);
        Check.load(x, 0, "aag 6 2 0 0 1\n4\n2\n8 2 4\n");
        Check.due("gates() behind a load", x.gates(), 1);
        Check.load(x, 1, "aag 6 2 1 0 1\n2\n4\n6 0\n8 2 6\n");
        Check.due("gates()", x.gates(), 2);
        Check.load(x, 0, "aag 6 2 1 0 1\n2\n4\n6 0\n8 2 6\n");
        Check.due("gates()", x.gates(), 2);
        Check.due("gates() asked again", x.gates(), 2);
    }

    private static void notMatching() {
        TwinJudge x = new TwinJudge();
        Check.throwing("gates()", x::gates, Check.STATE);
        Check.load(x, 0, EMPTY);
        Check.throwing("gates()", x::gates, Check.STATE);
        Check.load(x, 1, "aag 1 1 0 0 0\n2\n");
        Check.throwing("gates()", x::gates, Check.STATE);
        Check.load(x, 1, "aag 2 2 0 1 0\n2\n4\n0\n");
        Check.throwing("gates()", x::gates, Check.STATE);
    }

    /** 150 ands in a row, from a latch on. */
    private static String chain() {
        StringBuilder text = new StringBuilder("aag 160 2 1 0 150\n2\n4\n6 0\n");
        for (int v = 4; v < 154; v++) {
            text.append(2 * v).append(' ').append(2 * v - 1).append(' ').append(v % 2 == 0 ? 2 : 4).append('\n');
        }
        return text.toString();
    }

    private static void most() {
        TwinJudge x = Check.both(chain(), chain());
        Check.due("gates(): as many as can be", x.gates(), 300);
    }
}
