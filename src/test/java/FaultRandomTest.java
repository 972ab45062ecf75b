import java.util.Arrays;
import java.util.Random;

/** Promises 4 and 5 on files that are changed here and there, against a plain model. */
public final class FaultRandomTest {
    private static final Random RANDOM = new Random(7);
    private static final String BYTES = "0123456789 \n\n  ilocag\0\u0080\u00ff2468";

    public static void main(String[] args) {
        int[] seen = new int[7];
        TwinJudge x = new TwinJudge();
        for (int n = 0; n < 20000; n++) {
            // An object is used for at most 512 calls.
            x = n % 10 == 0 ? new TwinJudge() : x;
            byte[] file = file();
            for (int k = RANDOM.nextInt(4); k > 0; k--) {
                file = changed(file);
            }
            int[] due = FileModel.fault(file);
            seen[due[0]]++;
            boolean loaded = Check.load(x, n % 2, file) >= 0;
            String text = "file " + n + " (" + Arrays.toString(file) + "): ";
            Check.due(text + "fault(0)", x.fault(0), due[0]);
            Check.due(text + "fault(1)", x.fault(1), due[1]);
            Check.due(text + "load() does not throw", loaded, due[0] == 0);
            Check.due(text + "end(0)", x.end(0), 0);
        }
        for (int code = 0; code < seen.length; code++) {
            Check.due("files with fault " + code + " were made", seen[code] >= 20, true);
        }
        Check.finish();
    }

    private static byte[] file() {
        boolean binary = RANDOM.nextInt(3) == 0;
        int inputs = RANDOM.nextInt(4);
        int latches = RANDOM.nextInt(4);
        int outputs = RANDOM.nextInt(4);
        Plan plan = Plan.random(RANDOM, inputs, latches, outputs, RANDOM.nextInt(7), binary);
        if (!binary && plan.ands.length > 0 && RANDOM.nextInt(5) == 0) {
            // Ands on any ands: loops.
            for (int[] and : plan.ands) {
                and[1 + RANDOM.nextInt(2)] = 2 * plan.ands[RANDOM.nextInt(plan.ands.length)][0] + RANDOM.nextInt(2);
            }
        }
        StringBuilder rest = new StringBuilder();
        for (int k = RANDOM.nextInt(4); k > 0; k--) {
            rest.append("ilo".charAt(RANDOM.nextInt(3))).append(RANDOM.nextInt(3)).append(' ');
            rest.append("x".repeat(RANDOM.nextInt(4) == 0 ? 38 + RANDOM.nextInt(4) : 1 + RANDOM.nextInt(5))).append('\n');
        }
        if (RANDOM.nextInt(3) == 0) {
            rest.append("c\nany");
        }
        byte[] body = plan.file();
        byte[] end = Check.bytes(rest.toString());
        byte[] file = Arrays.copyOf(body, body.length + end.length);
        System.arraycopy(end, 0, file, body.length, end.length);
        return file;
    }

    private static byte[] changed(byte[] file) {
        if (file.length == 0) {
            return file;
        }
        // Behind the first line more often than in it.
        int from = Math.min(file.length - 1, RANDOM.nextInt(4) == 0 ? 0 : 14);
        int at = from + RANDOM.nextInt(file.length - from);
        byte other = (byte) BYTES.charAt(RANDOM.nextInt(BYTES.length()));
        switch (RANDOM.nextInt(8)) {
            case 0:
                return Arrays.copyOf(file, at);
            case 1: {
                byte[] shorter = Arrays.copyOf(file, file.length - 1);
                System.arraycopy(file, at + 1, shorter, at, file.length - at - 1);
                return shorter;
            }
            case 2: {
                byte[] longer = Arrays.copyOf(file, file.length + 1);
                System.arraycopy(file, at, longer, at + 1, file.length - at);
                longer[at] = other;
                return longer;
            }
            default: {
                byte[] next = file.clone();
                boolean digit = file[at] >= '0' && file[at] <= '9';
                next[at] = digit && RANDOM.nextInt(4) != 0 ? (byte) ('0' + RANDOM.nextInt(10)) : other;
                return next;
            }
        }
    }
}
