import java.io.File;
import java.io.IOException;
import java.lang.reflect.Method;
import java.lang.reflect.Modifier;
import java.nio.file.Files;
import java.nio.file.Path;

/** README.md: its example answers as it says, and it names all calls and tests; run from the project's directory. */
public final class ReadmeTest {
    private static String[] example;
    private static int at = 0;

    public static void main(String[] args) throws IOException {
        String text = Files.readString(Path.of("README.md"));
        example = text.split("```java\n")[1].split("```")[0].split("\n");
        playExample();
        for (Method method : TwinJudge.class.getDeclaredMethods()) {
            if (Modifier.isPublic(method.getModifiers())) {
                Check.due("README.md has a row of " + method.getName(), text.contains("\n| `" + method.getName() + "("), true);
            }
        }
        namesAll(text, "src/test/java");
        Check.finish();
    }

    private static void playExample() {
        TwinJudge x = new TwinJudge();
        stands("TwinJudge x = new TwinJudge();");
        x.feed(0x61616720, 0x31203120, 0x30203120, 0x300A320A, 0x320A0000);
        stands("x.feed(0x61616720, 0x31203120, 0x30203120, 0x300A320A, 0x320A0000);");
        answers("x.end(18);", x.end(18));
        answers("x.load(0);", x.load(0));
        x.feed(0x61616720, 0x31203120, 0x30203120, 0x300A320A, 0x330A0000);
        stands("x.feed(0x61616720, 0x31203120, 0x30203120, 0x300A320A, 0x330A0000);");
        answers("x.end(18);", x.end(18));
        answers("x.load(1);", x.load(1));
        answers("x.judge();", x.judge());
        answers("x.witness(0);", x.witness(0));
        answers("x.blame();", x.blame());
        answers("x.twin(1, 3);", x.twin(1, 3));
        Check.due("README.md's example has no more lines", at, example.length);
    }

    private static String nextLine() {
        at++;
        return at <= example.length ? example[at - 1] : "";
    }

    private static void stands(String call) {
        Check.due("README.md's example goes on with " + call, nextLine().startsWith(call), true);
    }

    /** The line has the call, and behind it, as a comment, the answer and a colon. */
    private static void answers(String call, int answer) {
        String line = nextLine();
        boolean right = line.startsWith(call) && line.substring(call.length()).trim().startsWith("// " + answer + ":");
        Check.due("README.md's line '" + line + "' is " + call + " // " + answer, right, true);
    }

    private static void namesAll(String text, String folder) {
        File[] files = new File(folder).listFiles((dir, name) -> name.endsWith(".java"));
        Check.due(folder + " has tests", files != null && files.length > 0, true);
        for (File file : files == null ? new File[0] : files) {
            String name = file.getName().replace(".java", "");
            Check.due("README.md names " + name, text.contains("`" + name + "`"), true);
        }
    }
}
