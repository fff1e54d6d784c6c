import java.io.IOException;
import java.nio.file.Files;
import java.nio.file.Path;
import java.util.regex.Matcher;
import java.util.regex.Pattern;

/** What of LANGUAGE.md can be read from the source's words; it is run from the project's own folder. */
public final class LanguageTest {
    private static final String[] NOT_ALLOWED = {
        "\\bcatch\\b", "\\btry\\b", "\\bthrow\\b", "\\bthrows\\b", "\\bfinally\\b", "\\bassert\\b",
        "\\bsynchronized\\b", "->", "::", "\\bpackage\\b", "\\bprotected\\b", "\\bSystem\\.(?!arraycopy)",
        "Exact\\b", "\\bRandom\\b", "\\bstatic\\s*\\{", "\\bObject\\b", "\\bthis\\s*[,)]"
    };

    public static void main(String[] args) throws IOException {
        String source = Files.readString(Path.of("src/main/java/BottomWalks.java"));
        String code = source.replaceAll("(?s)/\\*.*?\\*/", "").replaceAll("//[^\n]*", "");
        for (String word : NOT_ALLOWED) {
            Due.whole("rules 2 to 13: " + word, 0, count(word, code));
        }
        Due.whole("rule 4: the only import is that of Arrays", count("import java\\.util\\.Arrays;", code),
                count("\\bimport\\b", code));
        Due.whole("rule 5: no static number with a point", 0, count("static final (double|float)", code));
        Due.whole("rule 12: what is made is made for a field", count("\\bnew\\b", code),
                count("\n {8,12}(private final .* = |\\w+ = )new |\n {4}private final .* = new ", code));
        Due.end();
    }

    private static int count(String pattern, String code) {
        Matcher matcher = Pattern.compile(pattern).matcher(code);
        int found = 0;
        while (matcher.find()) {
            found++;
        }
        return found;
    }
}
