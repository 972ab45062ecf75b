import java.nio.charset.StandardCharsets;
import java.util.Arrays;

/** What the tests share: counting wrong answers, and feeding files to an object. */
final class Check {
    static final int STATE = 1;
    static final int ARGUMENT = 2;

    /** What the answers are about: it is printed ahead of each wrong one. */
    static String about = "";

    private static int wrong = 0;

    interface Call {
        long answer();
    }

    private Check() {
    }

    static void due(String what, long got, long want) {
        if (got != want) {
            wrong++;
            System.out.println(about + what + " answered " + got + ", due is " + want);
        }
    }

    static void due(String what, boolean got, boolean want) {
        due(what, got ? 1 : 0, want ? 1 : 0);
    }

    /** The call must throw: STATE for IllegalStateException, ARGUMENT for IllegalArgumentException. */
    static void throwing(String what, Call call, int want) {
        int got = 0;
        try {
            call.answer();
        } catch (RuntimeException e) {
            got = e.getClass() == IllegalStateException.class ? STATE
                : e.getClass() == IllegalArgumentException.class ? ARGUMENT : 3;
        }
        due(what + " throws (1 IllegalStateException, 2 IllegalArgumentException, 0 nothing)", got, want);
    }

    static void finish() {
        System.out.println(wrong == 0 ? "all answers are as due" : wrong + " answers are not as due");
        if (wrong != 0) {
            System.exit(1);
        }
    }

    static byte[] bytes(String text) {
        return text.getBytes(StandardCharsets.ISO_8859_1);
    }

    /** Zeros are ready behind an end(): they need no feed(), so that 6000 bytes take less than 512 calls. */
    static void put(TwinJudge x, byte[] file) {
        for (int at = 0; at < file.length; at += 20) {
            byte[] part = Arrays.copyOf(Arrays.copyOfRange(file, at, Math.min(file.length, at + 20)), 20);
            if (at == 0 || !Arrays.equals(part, new byte[20])) {
                x.feed(word(part, 0), word(part, 4), word(part, 8), word(part, 12), word(part, 16));
            }
            x.end(Math.min(20, file.length - at));
        }
    }

    private static int word(byte[] part, int at) {
        return (part[at] & 255) << 24 | (part[at + 1] & 255) << 16 | (part[at + 2] & 255) << 8 | part[at + 3] & 255;
    }

    /** The number of ands, or -1 behind an exception. */
    static int load(TwinJudge x, int c, byte[] file) {
        put(x, file);
        try {
            return x.load(c);
        } catch (IllegalArgumentException e) {
            return -1;
        }
    }

    static int load(TwinJudge x, int c, String file) {
        return load(x, c, bytes(file));
    }

    static String shown(String file) {
        StringBuilder text = new StringBuilder();
        for (char c : file.toCharArray()) {
            text.append(c < 32 || c > 126 ? "\\x" + Integer.toHexString(c) : String.valueOf(c));
        }
        return text.toString();
    }

    /** The file has this fault at this place (0 and NONE: it has none). */
    static void fault(String file, int code, int place) {
        TwinJudge x = new TwinJudge();
        int ands = load(x, 1, file);
        due(shown(file) + ": it is refused", ands == -1, code != 0);
        due(shown(file) + ": fault(0)", x.fault(0), code);
        due(shown(file) + ": fault(1)", x.fault(1), place);
        due(shown(file) + ": many(1, 0) is there", x.many(1, 0) != -1, code == 0);
    }

    /** The file without its mark '^' has this fault at the byte behind the mark. */
    static void fault(int code, String marked) {
        int place = marked.indexOf('^');
        fault(marked.substring(0, place) + marked.substring(place + 1), code, place);
    }

    static void fine(String file) {
        fault(file, 0, TwinJudge.NONE);
    }

    static TwinJudge one(String file) {
        TwinJudge x = new TwinJudge();
        due(shown(file) + ": load(0) finds no fault", load(x, 0, file) >= 0, true);
        return x;
    }

    static TwinJudge both(String first, String second) {
        return both(bytes(first), bytes(second));
    }

    static TwinJudge both(Plan first, Plan second) {
        return both(first.file(), second.file());
    }

    private static TwinJudge both(byte[] first, byte[] second) {
        TwinJudge x = new TwinJudge();
        due("load(0) finds no fault", load(x, 0, first) >= 0, true);
        due("load(1) finds no fault", load(x, 1, second) >= 0, true);
        return x;
    }
}
