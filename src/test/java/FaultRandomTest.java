import java.util.Arrays;
import java.util.Random;

/** Promises 4 and 5 on files that are changed here and there, against a plain model. */
public final class FaultRandomTest {
    public static void main(String[] args) {
        Random random = new Random(7);
        FileMaker maker = new FileMaker(random);
        int[] seen = new int[7];
        TwinJudge x = new TwinJudge();
        for (int n = 0; n < 20000; n++) {
            // An object is used for at most 512 calls.
            x = n % 10 == 0 ? new TwinJudge() : x;
            byte[] file = maker.file();
            for (int k = random.nextInt(4); k > 0; k--) {
                file = maker.changed(file);
            }
            FileModel due = FileModel.of(file);
            seen[due.code]++;
            boolean loaded = Check.load(x, n % 2, file) >= 0;
            String text = "file " + n + " (" + Arrays.toString(file) + "): ";
            Check.due(text + "fault(0)", x.fault(0), due.code);
            Check.due(text + "fault(1)", x.fault(1), due.place);
            Check.due(text + "load() does not throw", loaded, due.code == 0);
            Check.due(text + "end(0)", x.end(0), 0);
        }
        for (int code = 0; code < seen.length; code++) {
            Check.due("files with fault " + code + " were made", seen[code] >= 20, true);
        }
        Check.finish();
    }
}
