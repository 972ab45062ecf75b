/** Promises 20 and 21: same and twin. */
public final class SameTest {
    /** Inputs 8 and 4; latch 6 holds the first one, latch 10 is now 0, now 1. */
    private static final String FIRST = "aag 9 2 2 1 2\n8\n4\n6 8\n10 11\n12\n12 8 6\n14 9 7\n";

    public static void main(String[] args) {
        ordinary();
        exceptions();
        eachPairAndVector();
        onlyPairsThatComeUp();
        Check.finish();
    }

    private static void dueSame(TwinJudge x, int c, int literal, int d, int other, boolean want) {
        String call = "same(" + c + ", " + literal + ", " + d + ", " + other + ")";
        Check.due(call, x.same(c, literal, d, other), want);
        Check.due("turned " + call, x.same(d, other, c, literal), want);
        Check.due("negated " + call, x.same(c, literal ^ 1, d, other ^ 1), want);
    }

    private static void dueTwin(TwinJudge x, int c, int literal, int want) {
        Check.due("twin(" + c + ", " + literal + ")", x.twin(c, literal), want);
        int negated = want < 2 ? 1 - want : want ^ 1;
        Check.due("twin(" + c + ", " + (literal ^ 1) + ")", x.twin(c, literal ^ 1), negated);
    }

    private static void ordinary() {
        // Its inputs are 2 and 18; latch 4 holds the first one, latch 6 is always 0.
        TwinJudge x = Check.both(FIRST, "aag 9 2 2 1 2\n2\n18\n4 2\n6 6\n8\n8 4 2\n10 6 4\n");
        dueSame(x, 0, 8, 1, 2, true);
        dueSame(x, 0, 4, 1, 18, true);
        dueSame(x, 0, 8, 1, 18, false);
        dueSame(x, 0, 6, 1, 4, true);
        dueSame(x, 0, 6, 1, 5, false);
        dueSame(x, 0, 12, 1, 8, true);
        dueSame(x, 0, 12, 0, 8, false);
        dueSame(x, 0, 12, 0, 12, true);
        dueSame(x, 1, 6, 1, 0, true);
        dueSame(x, 1, 10, 1, 6, true);
        dueSame(x, 1, 10, 0, 0, true);
        dueSame(x, 0, 0, 1, 0, true);
        dueSame(x, 0, 0, 1, 1, false);
        dueTwin(x, 0, 0, 0);
        dueTwin(x, 1, 0, 0);
        dueTwin(x, 0, 8, 8);
        dueTwin(x, 1, 2, 8);
        dueTwin(x, 1, 18, 4);
        dueTwin(x, 1, 4, 6);
        dueTwin(x, 1, 6, 0);
        dueTwin(x, 1, 10, 0);
        dueTwin(x, 1, 8, 12);
        dueTwin(x, 0, 14, 14);
        dueTwin(x, 0, 10, 10);
        Check.due("state(0)", x.state(0), 0);
        Check.load(x, 0, "aag 2 2 0 1 0\n2\n4\n0\n");
        dueTwin(x, 1, 4, 1004);
        dueTwin(x, 1, 8, 1008);
        dueTwin(x, 1, 10, 0);
        dueSame(x, 1, 8, 1, 4, false);
        // The first one that is the same may be the negation of a lower variable.
        Check.load(x, 1, "aag 6 2 2 1 2\n2\n4\n6 3\n8 2\n6\n10 9 9\n12 11 11\n");
        dueTwin(x, 1, 10, 1009);
        dueTwin(x, 1, 12, 1008);
        dueTwin(x, 1, 8, 1008);
        dueTwin(x, 1, 6, 1006);
        Check.due("doubts()", x.doubts(), 0);
    }

    private static void exceptions() {
        TwinJudge none = new TwinJudge();
        Check.throwing("same", () -> none.same(0, 0, 1, 0) ? 1 : 0, Check.STATE);
        Check.throwing("same", () -> none.same(2, -1, 1, 0) ? 1 : 0, Check.STATE);
        Check.throwing("twin", () -> none.twin(0, 0), Check.STATE);
        Check.throwing("twin", () -> none.twin(-1, 0), Check.STATE);
        Check.load(none, 0, FIRST);
        Check.throwing("same of one circuit", () -> none.same(0, 0, 0, 0) ? 1 : 0, Check.STATE);
        Check.throwing("twin of one circuit", () -> none.twin(0, 0), Check.STATE);
        TwinJudge x = Check.both(FIRST, "aag 3 2 0 1 0\n2\n4\n0\n");
        for (int c : new int[] {-1, 2, Integer.MIN_VALUE, Integer.MAX_VALUE}) {
            Check.throwing("same(" + c + ", ..)", () -> x.same(c, 0, 1, 0) ? 1 : 0, Check.ARGUMENT);
            Check.throwing("same(.., " + c + ", ..)", () -> x.same(0, 0, c, 0) ? 1 : 0, Check.ARGUMENT);
            Check.throwing("twin(" + c + ", 0)", () -> x.twin(c, 0), Check.ARGUMENT);
        }
        for (int literal : new int[] {-1, -2, 2, 3, 16, 17, 18, 19, 20, 1002, Integer.MIN_VALUE, Integer.MAX_VALUE}) {
            Check.throwing("same(0, " + literal + ", ..)", () -> x.same(0, literal, 1, 0) ? 1 : 0, Check.ARGUMENT);
            Check.throwing("same(.., 0, " + literal + ")", () -> x.same(1, 0, 0, literal) ? 1 : 0, Check.ARGUMENT);
            Check.throwing("twin(0, " + literal + ")", () -> x.twin(0, literal), Check.ARGUMENT);
        }
        for (int literal : new int[] {6, 7, 8}) {
            Check.throwing("same(.., 1, " + literal + ")", () -> x.same(0, 0, 1, literal) ? 1 : 0, Check.ARGUMENT);
            Check.throwing("twin(1, " + literal + ")", () -> x.twin(1, literal), Check.ARGUMENT);
        }
    }

    /** One difference at the last pair that comes up, by the last vector, is enough. */
    private static void eachPairAndVector() {
        Builder b = new Builder();
        int[] inputs = {b.input(), b.input(), b.input(), b.input(), b.input()};
        int[] count = b.latches(6);
        b.next(b.more(count, inputs[0]));
        int last = b.and(b.equal(count, 63), b.equal(inputs, 31));
        int never = b.and(b.equal(count, 63), b.and(b.equal(inputs, 31), count[0] ^ 1));
        Plan plan = b.plan();
        TwinJudge x = Check.both(plan, plan);
        dueSame(x, 0, last, 1, 0, false);
        dueSame(x, 0, never, 1, 0, true);
        dueSame(x, 1, last, 0, last, true);
        dueTwin(x, 1, last, last);
        dueTwin(x, 1, never, 0);
        dueTwin(x, 1, count[5], count[5]);
        Check.due("pairs(0)", x.pairs(0), 64);
        // Beside a circuit without latches.
        Check.load(x, 0, "aag 5 5 0 0 0\n2\n4\n6\n8\n10\n");
        dueTwin(x, 1, last, 1000 + last);
        Check.due("doubts()", x.doubts(), 0);
    }

    /** All 4096 pairs come up; then, behind a load, just one of them. */
    private static void onlyPairsThatComeUp() {
        String shift = "14 2\n4 14\n6 4\n8 6\n10 8\n12 10\n";
        TwinJudge x = Check.both("aag 8 2 6 0 0\n2\n16\n" + shift, "aag 8 2 6 0 0\n16\n2\n" + shift);
        dueTwin(x, 0, 12, 12);
        dueTwin(x, 1, 2, 16);
        dueTwin(x, 1, 12, 1012);
        dueSame(x, 0, 12, 1, 12, false);
        dueSame(x, 0, 2, 1, 16, true);
        String still = "14 14\n4 4\n6 6\n8 8\n10 10\n12 12\n";
        Check.load(x, 0, "aag 8 2 6 0 0\n2\n16\n" + still);
        Check.load(x, 1, "aag 8 2 6 0 0\n2\n16\n" + still);
        Check.due("pairs(0)", x.pairs(0), 1);
        for (int literal = 4; literal <= 14; literal += 2) {
            dueTwin(x, 0, literal, 0);
            dueTwin(x, 1, literal, 0);
            dueSame(x, 0, literal, 1, 0, true);
            dueSame(x, 0, literal, 1, 18 - literal, true);
        }
        dueTwin(x, 1, 2, 2);
        Check.due("doubts()", x.doubts(), 0);
    }
}
