/** Promise 7: symbol. */
public final class SymbolTest {
    private static final String BODY = "aag 7 2 2 3 0\n2\n4\n6 2\n8 4\n2\n4\n6\n";

    public static void main(String[] args) {
        TwinJudge x = new TwinJudge();
        String forty = "0123456789abcdefghij0123456789ABCDEFGHI\u00ff";
        Check.load(x, 0, BODY + "i1 in one\nl0 \0\u0080\no2 " + forty + "\nl1 x\n");
        Check.load(x, 1, BODY + "i0 zero\no0 out\n");
        dueName(x, 0, 0, 0, "");
        dueName(x, 0, 0, 1, "in one");
        dueName(x, 0, 1, 0, "\0\u0080");
        dueName(x, 0, 1, 1, "x");
        dueName(x, 0, 2, 0, "");
        dueName(x, 0, 2, 2, forty);
        dueName(x, 1, 0, 0, "zero");
        dueName(x, 1, 0, 1, "");
        dueName(x, 1, 2, 0, "out");
        dueName(x, 1, 2, 2, "");
        for (int bad : new int[] {-1, 3, 5, 11, 2000, Integer.MIN_VALUE, Integer.MAX_VALUE}) {
            Check.due("symbol(" + bad + ", 0, 1, 0)", x.symbol(bad, 0, 1, 0), -1);
            Check.due("symbol(0, " + bad + ", 1, 0)", x.symbol(0, bad, 1, 0), -1);
            Check.due("symbol(0, 0, " + bad + ", 0)", x.symbol(0, 0, bad, 0), -1);
            Check.due("symbol(0, 1, 1, " + bad + ")", x.symbol(0, 1, 1, bad), -1);
            Check.due("symbol(0, 2, " + bad + ", 0)", x.symbol(0, 2, bad, 0), -1);
        }
        Check.due("symbol(2, 0, 0, 0)", x.symbol(2, 0, 0, 0), -1);
        Check.load(x, 0, BODY + "i1 I\n");
        dueName(x, 0, 0, 1, "I");
        dueName(x, 0, 1, 0, "");
        dueName(x, 0, 2, 2, "");
        dueName(x, 1, 0, 0, "zero");
        // Names of a file with a fault do not count.
        Check.load(x, 0, BODY + "i1 JJ\ni0 K\nl7 a\n");
        dueName(x, 0, 0, 1, "I");
        dueName(x, 0, 0, 0, "");
        Check.due("load(0)", Check.load(x, 0, "aig 3 1 1 1 1\n6\n7\n\1\1o0 q\nl0 ll\nc\ni0 no\n"), 1);
        dueName(x, 0, 0, 0, "");
        dueName(x, 0, 1, 0, "ll");
        dueName(x, 0, 2, 0, "q");
        allNames();
        Check.finish();
    }

    /** As many names, and as long ones, as there can be. */
    private static void allNames() {
        StringBuilder file = new StringBuilder("aag 11 5 6 8 0\n2\n4\n6\n8\n10\n");
        file.append("12 0\n14 0\n16 0\n18 0\n20 0\n22 0\n").append("0\n".repeat(8));
        int[] sizes = {5, 6, 8};
        for (int kind = 2; kind >= 0; kind--) {
            for (int k = 0; k < sizes[kind]; k++) {
                file.append("ilo".charAt(kind)).append(k).append(' ').append(longName(kind, k)).append('\n');
            }
        }
        TwinJudge x = new TwinJudge();
        Check.load(x, 1, file.toString());
        for (int kind = 0; kind < 3; kind++) {
            for (int k = 0; k < sizes[kind]; k++) {
                Check.due("first byte", x.symbol(1, kind, k, 0), longName(kind, k).charAt(0));
                Check.due("last byte", x.symbol(1, kind, k, 39), longName(kind, k).charAt(39));
                Check.due("behind it", x.symbol(1, kind, k, 40), -1);
            }
            Check.due("none such", x.symbol(1, kind, sizes[kind], 0), -1);
        }
    }

    private static String longName(int kind, int k) {
        return String.valueOf((char) ('A' + 10 * kind + k)).repeat(40);
    }

    private static void dueName(TwinJudge x, int c, int kind, int k, String name) {
        for (int i = 0; i < name.length(); i++) {
            Check.due("symbol(" + c + ", " + kind + ", " + k + ", " + i + ")", x.symbol(c, kind, k, i), name.charAt(i));
        }
        Check.due("the end of " + name, x.symbol(c, kind, k, name.length()), -1);
        Check.due("ahead of " + name, x.symbol(c, kind, k, -1), -1);
    }
}
