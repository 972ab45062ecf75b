/** Promises 1 to 3: a new object, feed and end. */
public final class TapeTest {
    public static void main(String[] args) {
        newObject();
        bytesComeInOrder();
        refusals();
        zerosBehindEnd();
        fullTape();
        readyBytesOutliveLoad();
        Check.finish();
    }

    private static void newObject() {
        TwinJudge x = new TwinJudge();
        Check.due("new: end(0)", x.end(0), 0);
        Check.due("new: fault(0)", x.fault(0), 0);
        Check.due("new: fault(1)", x.fault(1), TwinJudge.NONE);
        for (int c = -1; c <= 2; c++) {
            Check.due("new: many(" + c + ", 0)", x.many(c, 0), -1);
            Check.due("new: state(" + c + ")", x.state(c), -1);
            Check.due("new: value(" + c + ", 0, 0)", x.value(c, 0, 0), -1);
            Check.due("new: symbol(" + c + ", 0, 0, 0)", x.symbol(c, 0, 0, 0), -1);
        }
        Check.due("new: step(31)", x.step(31), 0);
        Check.throwing("new: judge()", x::judge, Check.STATE);
        Check.due("new: doubts()", x.doubts(), 0);
    }

    /** A name brings back the bytes of the tape, those of a first, the highest of each first. */
    private static void bytesComeInOrder() {
        TwinJudge x = new TwinJudge();
        x.feed(1, 2, 3, 4, 5);
        Check.due("end(0) behind a feed", x.end(0), 0);
        Check.put(x, Check.bytes("aag 1 1 0 0 0\n2\ni0 "));
        x.feed(0x01020304, 0x05060708, 0x0900FE7F, 0x80818283, 0xFFFEFD0A);
        Check.due("end(20)", x.end(20), 39);
        Check.due("load(0)", x.load(0), 0);
        int[] name = {1, 2, 3, 4, 5, 6, 7, 8, 9, 0, 0xFE, 0x7F, 0x80, 0x81, 0x82, 0x83, 0xFF, 0xFE, 0xFD};
        for (int i = 0; i < name.length; i++) {
            Check.due("symbol(0, 0, 0, " + i + ")", x.symbol(0, 0, 0, i), name[i]);
        }
        Check.due("the tape behind load", x.end(0), 0);
    }

    private static void refusals() {
        TwinJudge x = new TwinJudge();
        Check.put(x, Check.bytes("aag 0 0 0 0 "));
        x.feed(0x300A0000, 0, 0, 0, 0);
        int[] bad = {-1, 21, Integer.MIN_VALUE, Integer.MAX_VALUE};
        for (int n : bad) {
            Check.due("end(" + n + ")", x.end(n), -1);
        }
        Check.due("end(2): a refused end() leaves the bytes ready", x.end(2), 14);
        Check.due("load(0)", x.load(0), 0);
    }

    private static void zerosBehindEnd() {
        TwinJudge x = new TwinJudge();
        Check.put(x, Check.bytes("aag 1 1 0 0 0\n2\ni0 "));
        Check.due("end(3): zeros", x.end(3), 22);
        x.feed(0x41424344, 0x45464748, 0, 0, 0);
        Check.due("end(2)", x.end(2), 24);
        Check.due("end(2): the rest is gone", x.end(2), 26);
        x.feed(0x41424344, 0, 0, 0, 0);
        Check.due("end(0)", x.end(0), 26);
        Check.due("end(1): end(0) made zeros too", x.end(1), 27);
        x.feed(0x41424344, 0, 0, 0, 0);
        x.feed(0x0A000000, 0, 0, 0, 0);
        Check.due("end(1): a later feed takes the place of one", x.end(1), 28);
        Check.due("load(0)", x.load(0), 0);
        int[] name = {0, 0, 0, 0x41, 0x42, 0, 0, 0, -1};
        for (int i = 0; i < name.length; i++) {
            Check.due("symbol(0, 0, 0, " + i + ")", x.symbol(0, 0, 0, i), name[i]);
        }
    }

    private static void fullTape() {
        TwinJudge x = new TwinJudge();
        Check.put(x, Check.bytes("aag 0 0 0 0 0\nc\n"));
        int length = 16;
        while (length + 20 <= 6000) {
            length += 20;
            Check.due("end(20)", x.end(20), length);
        }
        Check.due("length", length, 5996);
        Check.due("end(5) to 6001", x.end(5), -1);
        Check.due("end(20) far beyond", x.end(20), -1);
        Check.due("end(4) to 6000", x.end(4), 6000);
        Check.due("end(1) when full", x.end(1), -1);
        Check.due("end(0) when full", x.end(0), 6000);
        Check.due("load(0) of 6000 bytes", x.load(0), 0);
        Check.due("end(20) behind it", x.end(20), 20);
    }

    /** Only an end() that answers a number makes them 0. */
    private static void readyBytesOutliveLoad() {
        TwinJudge x = new TwinJudge();
        Check.put(x, Check.bytes("aag 0 0 0 0 0\n"));
        x.feed(0x61616720, 0x30203020, 0x30203020, 0x300A0000, 0);
        Check.due("load(0)", x.load(0), 0);
        x.reset();
        Check.due("end(14)", x.end(14), 14);
        Check.due("load(1) of the bytes that were ready", x.load(1), 0);
    }
}
