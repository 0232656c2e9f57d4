import java.io.IOException;
import java.nio.file.Files;
import java.nio.file.Path;
import java.util.regex.Matcher;
import java.util.regex.Pattern;

/** What a look at the text can tell of LANGUAGE.md: words, shapes and lengths that it rules out. */
public final class LanguageTest {
    private static final String[] OUT = {
        "\\bthrow\\b", "\\bthrows\\b", "\\btry\\b", "\\bcatch\\b", "\\bfinally\\b", "\\bsynchronized\\b",
        "\\bassert\\b", "->", "::", "\\bpackage\\b", "\\bprotected\\b", "Exact\\(", "\\bSystem\\.(?!arraycopy)",
        "\\bRandom\\b", "\\bThread\\b", "\\bException\\b", "\\bstatic\\s*\\{", "\\[\\]\\[\\]\\[\\]", "\" *\\+", "\\+ *\"",
        "\\bhashCode\\b", "\\btoString\\b", "\\bString\\.", "^import (?!java\\.util\\.Arrays;)"};

    private final Due due = new Due();

    public static void main(String[] args) throws IOException {
        LanguageTest test = new LanguageTest();
        String program = Files.readString(Path.of("src/main/java/CanoeMaster.java"));
        String code = program.replaceAll("(?s)/\\*.*?\\*/", "").replaceAll("//[^\n]*", "");
        test.words(code);
        test.shapes(program, code);
        test.due.finish();
    }

    private void words(String code) {
        for (String out : OUT) {
            Matcher m = Pattern.compile(out, Pattern.MULTILINE).matcher(code);
            due.is("the program has " + out, m.find(), false);
        }
    }

    private void shapes(String program, String code) {
        int classes = 0;
        for (Matcher m = Pattern.compile("\\bclass \\w+").matcher(code); m.find();) {
            classes++;
        }
        due.is("twelve classes at most, not " + classes, classes <= 12, true);
        for (int i = 0; i < program.length(); i++) {
            due.is("a character beyond 255 at " + i, program.charAt(i) > 255, false);
        }
        Matcher heads = Pattern.compile("\n( +)[\\w\\[\\] ]+\\(([^()]*)\\) \\{\n(.*?)\n\\1\\}", Pattern.DOTALL).matcher(code);
        while (heads.find()) {
            String head = heads.group().strip().split("\n")[0];
            due.is(head + " is short", heads.group(3).split("\n").length <= 60, true);
            due.is(head + " takes at most seven", heads.group(2).split(",").length <= 7, true);
        }
    }
}
