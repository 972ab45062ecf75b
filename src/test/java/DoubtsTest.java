/** Promise 22: doubts, behind calls that look again at what they have found. */
public final class DoubtsTest {
    public static void main(String[] args) {
        TwinJudge x = new TwinJudge();
        Check.due("doubts() of a new object", x.doubts(), 0);
        Check.load(x, 0, "aag 1 0 0");
        Check.throwing("judge()", x::judge, Check.STATE);
        Check.due("doubts() without circuits", x.doubts(), 0);
        // The same, one that tells late, one with other latches, one that tells at once.
        Plan[] others = {Builder.counter(5, 1, 20, 12), Builder.counter(5, 1, 20, 13), Builder.counter(4, 1, 15, 12),
            Builder.counter(3, 1, 6, 0)};
        Check.load(x, 0, Builder.counter(5, 1, 20, 12).file());
        // The third one comes to its 12 anew behind 28 steps, the first one behind 33.
        int[] lengths = {0, 13, 29, 1};
        for (int n = 0; n < others.length; n++) {
            Check.load(x, 1, others[n].file());
            Check.due("judge()", x.judge(), lengths[n]);
            Check.due("differs(16)", x.differs(16), lengths[n] <= 16 ? lengths[n] : 0);
            Check.due("differs(1)", x.differs(1), lengths[n] == 1 ? 1 : 0);
            for (int k = 0; k <= 8; k++) {
                x.inductive(k);
            }
            for (int literal = 0; literal < 20; literal++) {
                x.twin(0, literal);
                x.twin(1, literal);
            }
            Check.due("doubts() with circuit " + n, x.doubts(), 0);
            x.step(1);
        }
        Check.finish();
    }
}
