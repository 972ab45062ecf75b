import java.io.IOException;
import java.nio.file.Files;
import java.nio.file.Path;
import java.util.regex.Matcher;
import java.util.regex.Pattern;

/** Some rules of LANGUAGE.md that a look at the text can hold; run from the project's directory. */
public final class LanguageTest {
    private static final String[] FORBIDDEN = {
        "->", "::", "\\bcatch\\b", "\\bfinally\\b", "\\bsynchronized\\b", "\\bassert\\b", "^package\\b", "\\bObject\\b",
        "Exact\\(", "\\bdouble\\b", "\\bfloat\\b", "\\bThread\\b", "\\bRandom\\b", "System\\.(?!arraycopy)",
        "\\bhashCode\\b", "\\btoString\\b", "static \\{", "\\bprotected\\b", "while \\(true\\)", "for \\(;;"
    };

    public static void main(String[] args) throws IOException {
        String text = Files.readString(Path.of("src/main/java/TwinJudge.java"));
        String code = text.replaceAll("(?s)/\\*.*?\\*/", "").replaceAll("//.*", "");
        for (String forbidden : FORBIDDEN) {
            Check.due("'" + forbidden + "' in the class", count(code, forbidden), 0);
        }
        Check.due("imports", count(code, "^import "), count(code, "^import java\\.util\\.Arrays;"));
        Check.due("at most twelve classes", count(code, "\\b(class|record|enum|interface) [A-Z]") <= 12, true);
        Check.due("throws only what the document names", count(code, "throw new "),
            count(code, "throw new Illegal(State|Argument)Exception\\(\"[^\"]*\"\\);"));
        Matcher statics = Pattern.compile("(?m)^ +(private |public )?static (?!final )[^(]*;").matcher(code);
        Check.due("static fields are final", statics.find(), false);
        Check.finish();
    }

    private static int count(String code, String pattern) {
        Matcher matcher = Pattern.compile(pattern, Pattern.MULTILINE).matcher(code);
        int found = 0;
        while (matcher.find()) {
            found++;
        }
        return found;
    }
}
