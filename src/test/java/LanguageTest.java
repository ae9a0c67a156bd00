import java.nio.charset.StandardCharsets;
import java.nio.file.Files;
import java.nio.file.Path;
import java.util.regex.Matcher;
import java.util.regex.Pattern;

/** Rules of LANGUAGE.md that can be seen by words of the source: a guard, not the whole of them. */
public final class LanguageTest {
    private static final String[] FORBIDDEN = {
        "\\bpackage\\b", "\\bthrow\\b", "\\bthrows\\b", "\\btry\\b", "\\bcatch\\b", "\\bsynchronized\\b",
        "\\bassert\\b", "->", "::", "\\bprotected\\b", "\\bObject\\b", "\\bvar\\b", "Exact\\b",
        "\\bhashCode\\b", "\\btoString\\b", "\\bequals\\b", "MIN_VALUE", "MAX_VALUE", "\\bjava\\.(?!util\\.Arrays;)",
        "System\\.(?!arraycopy)", "Arrays\\.(?!fill|copyOf|copyOfRange|;)", "Math\\.(?!max|min|abs|floorDiv|floorMod)",
        "static\\s*\\{", "while\\s*\\(true", "for\\s*\\(;;",
    };

    private LanguageTest() {
    }

    private static String withoutComments(String source) {
        return source.replaceAll("(?s)/\\*.*?\\*/", "").replaceAll("//[^\\n]*", "");
    }

    public static void main(String[] args) throws Exception {
        Due due = new Due();
        Path file = Path.of("src/main/java/NumberedWaves.java");
        String source = Files.readString(file, StandardCharsets.UTF_8);
        for (int i = 0; i < source.length(); i++) {
            due.isTrue("a sign beyond 127 at " + i, source.charAt(i) < 128);
        }
        String code = withoutComments(source).replace("import java.util.Arrays;", "");
        for (String forbidden : FORBIDDEN) {
            Matcher m = Pattern.compile(forbidden).matcher(code);
            due.isTrue("the source has " + forbidden, !m.find());
        }
        Matcher inner = Pattern.compile("(?m)^ {4}(.*\\bclass\\b.*)$").matcher(code);
        int classes = 1;
        while (inner.find()) {
            classes++;
            due.isTrue(inner.group(1), inner.group(1).startsWith("private static final class "));
        }
        due.isTrue("at most twelve classes", classes <= 12);
        due.end();
    }
}
