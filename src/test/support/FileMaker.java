import java.util.Arrays;
import java.util.Random;

/** Makes files of either form, with symbols, some of them with a fault. */
final class FileMaker {
    private static final String BYTES = "0123456789 \n\n  ilocag\0\u0080\u00ff2468";

    private final Random random;

    FileMaker(Random random) {
        this.random = random;
    }

    byte[] file() {
        return file(random.nextInt(4), random.nextInt(4));
    }

    byte[] file(int inputs, int outputs) {
        boolean binary = random.nextInt(3) == 0;
        Plan plan = Plan.random(random, inputs, random.nextInt(4), outputs, random.nextInt(7), binary);
        if (!binary && plan.ands.length > 0 && random.nextInt(5) == 0) {
            // Ands on any ands: loops.
            for (int[] and : plan.ands) {
                and[1 + random.nextInt(2)] = 2 * plan.ands[random.nextInt(plan.ands.length)][0] + random.nextInt(2);
            }
        }
        return withSymbols(plan);
    }

    /** Some of the symbols name what is not there, or was named before. */
    private byte[] withSymbols(Plan plan) {
        StringBuilder rest = new StringBuilder();
        for (int k = random.nextInt(4); k > 0; k--) {
            rest.append("ilo".charAt(random.nextInt(3))).append(random.nextInt(3)).append(' ');
            rest.append("x".repeat(random.nextInt(4) == 0 ? 38 + random.nextInt(4) : 1 + random.nextInt(5))).append('\n');
        }
        if (random.nextInt(3) == 0) {
            rest.append("c\nany");
        }
        return joined(plan.file(), Check.bytes(rest.toString()));
    }

    private static byte[] joined(byte[] body, byte[] end) {
        byte[] file = Arrays.copyOf(body, body.length + end.length);
        System.arraycopy(end, 0, file, body.length, end.length);
        return file;
    }

    /** Without a fault: some inputs, latches and outputs have a name of any bytes. */
    byte[] withNames(Plan plan) {
        StringBuilder rest = new StringBuilder();
        int[] sizes = {plan.inputs.length, plan.latches.length, plan.outputs.length};
        for (int kind = 0; kind < 3; kind++) {
            for (int k = sizes[kind] - 1; k >= 0; k--) {
                if (random.nextInt(4) == 0) {
                    rest.append("ilo".charAt(kind)).append(k).append(' ').append(name()).append('\n');
                }
            }
        }
        return joined(plan.file(), Check.bytes(rest.toString()));
    }

    private String name() {
        StringBuilder name = new StringBuilder();
        for (int left = random.nextInt(5) == 0 ? 40 : 1 + random.nextInt(6); left > 0; left--) {
            char any = (char) random.nextInt(256);
            name.append(any == '\n' ? ' ' : any);
        }
        return name.toString();
    }

    /** One byte is another one, is gone or has come, or the file is cut. */
    byte[] changed(byte[] file) {
        if (file.length == 0) {
            return file;
        }
        // Behind the first line more often than in it.
        int from = Math.min(file.length - 1, random.nextInt(4) == 0 ? 0 : 14);
        int at = from + random.nextInt(file.length - from);
        byte other = (byte) BYTES.charAt(random.nextInt(BYTES.length()));
        switch (random.nextInt(8)) {
            case 0:
                return Arrays.copyOf(file, at);
            case 1: {
                byte[] shorter = Arrays.copyOf(file, file.length - 1);
                System.arraycopy(file, at + 1, shorter, at, file.length - at - 1);
                return shorter;
            }
            case 2: {
                byte[] longer = Arrays.copyOf(file, file.length + 1);
                System.arraycopy(file, at, longer, at + 1, file.length - at);
                longer[at] = other;
                return longer;
            }
            default: {
                byte[] next = file.clone();
                boolean digit = file[at] >= '0' && file[at] <= '9';
                next[at] = digit && random.nextInt(4) != 0 ? (byte) ('0' + random.nextInt(10)) : other;
                return next;
            }
        }
    }
}
