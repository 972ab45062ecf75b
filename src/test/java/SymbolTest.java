/** Promise 7: symbol. */
public final class SymbolTest {
    private static final String BODY = "aag 7 2 2 3 0\n2\n4\n6 2\n8 4\n2\n4\n6\n";

    public static void main(String[] args) {
        TwinJudge x = new TwinJudge();
        String forty = "0123456789abcdefghij0123456789ABCDEFGHI\u00ff";
        Check.load(x, 0, BODY + "i1 in one\nl0 \0\u0080\no2 " + forty + "\nl1 x\n");
        Check.load(x, 1, BODY + "i0 zero\no0 out\n");
        dueName(x, 0, 0, 0, "");
        dueName(x, 0, 0, 1, "in one");
        dueName(x, 0, 1, 0, "\0\u0080");
        dueName(x, 0, 1, 1, "x");
        dueName(x, 0, 2, 0, "");
        dueName(x, 0, 2, 2, forty);
        dueName(x, 1, 0, 0, "zero");
        dueName(x, 1, 0, 1, "");
        dueName(x, 1, 2, 0, "out");
        dueName(x, 1, 2, 2, "");
        for (int bad : new int[] {-1, 3, 5, 11, 2000, Integer.MIN_VALUE, Integer.MAX_VALUE}) {
            Check.due("symbol(" + bad + ", 0, 1, 0)", x.symbol(bad, 0, 1, 0), -1);
            Check.due("symbol(0, " + bad + ", 1, 0)", x.symbol(0, bad, 1, 0), -1);
            Check.due("symbol(0, 0, " + bad + ", 0)", x.symbol(0, 0, bad, 0), -1);
            Check.due("symbol(0, 1, 1, " + bad + ")", x.symbol(0, 1, 1, bad), -1);
            Check.due("symbol(0, 2, " + bad + ", 0)", x.symbol(0, 2, bad, 0), -1);
        }
        Check.due("symbol(2, 0, 0, 0)", x.symbol(2, 0, 0, 0), -1);
        Check.load(x, 0, BODY + "i1 I\n");
        dueName(x, 0, 0, 1, "I");
        dueName(x, 0, 1, 0, "");
        dueName(x, 0, 2, 2, "");
        dueName(x, 1, 0, 0, "zero");
        // Names of a file with a fault do not count.
        Check.load(x, 0, BODY + "i1 JJ\ni0 K\nl7 a\n");
        dueName(x, 0, 0, 1, "I");
        dueName(x, 0, 0, 0, "");
        Check.due("load(0)", Check.load(x, 0, "aig 3 1 1 1 1\n6\n7\n\1\1o0 q\nl0 ll\nc\ni0 no\n"), 1);
        dueName(x, 0, 0, 0, "");
        dueName(x, 0, 1, 0, "ll");
        dueName(x, 0, 2, 0, "q");
        Check.finish();
    }

    private static void dueName(TwinJudge x, int c, int kind, int k, String name) {
        for (int i = 0; i < name.length(); i++) {
            Check.due("symbol(" + c + ", " + kind + ", " + k + ", " + i + ")", x.symbol(c, kind, k, i), name.charAt(i));
        }
        Check.due("the end of " + name, x.symbol(c, kind, k, name.length()), -1);
        Check.due("ahead of " + name, x.symbol(c, kind, k, -1), -1);
    }
}
