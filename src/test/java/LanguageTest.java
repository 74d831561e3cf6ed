import java.io.IOException;
import java.nio.file.Files;
import java.nio.file.Path;
import java.util.List;
import java.util.regex.Matcher;
import java.util.regex.Pattern;

/** What of LANGUAGE.md can be seen in the source's lines. It is run in the project's root, as .ci/run does. */
public final class LanguageTest {
    private static final String[] FORBIDDEN = {"->", "::", "\\bfinally\\b", "\\bsynchronized\\b", "\\bassert\\b",
        "Exact\\b", "\\btry\\b", "\\bcatch\\b", "\\bpackage\\b", "\\bnative\\b", "\\bvolatile\\b", "\\bthread\\b",
        "System\\.(?!arraycopy)", "Math\\.(random|sqrt|pow)", "\\bdouble\\b", "\\bfloat\\b", "\\bvar\\b",
        "while \\(true\\)", "for \\(;;\\)", "\\bwhile\\b", "\\bhashCode\\b", "\\bObject\\b"};
    private static final Pattern METHOD = Pattern.compile("^ {4}( {4})?[a-zA-Z].*\\) (throws \\w+ )?\\{$");

    private LanguageTest() {
    }

    public static void main(String[] args) throws IOException {
        List<String> lines = Files.readAllLines(Path.of("src/main/java/DividingHead.java"));
        int start = -1;
        String name = "";
        for (int i = 0; i < lines.size(); i++) {
            String line = lines.get(i);
            String code = line.replaceAll("//.*", "").replaceAll("^\\s*(/\\*\\*|\\*).*", "");
            for (String word : FORBIDDEN) {
                Matcher m = Pattern.compile(word).matcher(code);
                Check.holds("line " + (i + 1) + " is without " + word + ": " + line, !m.find());
            }
            if (code.startsWith("import ")) {
                Check.holds("import of line " + (i + 1), code.equals("import java.util.Arrays;")
                    || code.equals("import java.util.NoSuchElementException;"));
            }
            if (code.contains("throw ")) {
                Check.holds("line " + (i + 1) + " throws what the document names",
                    code.trim().equals("throw new NoSuchElementException();"));
            }
            if (METHOD.matcher(line).matches()) {
                start = i;
                name = line.trim();
            }
            if (start >= 0 && line.equals(indent(lines.get(start)) + "}")) {
                Check.holds(name + " is short", i - start < 60);
                start = -1;
            }
            for (int k = 0; k < line.length(); k++) {
                Check.holds("signs of line " + (i + 1), line.charAt(k) < 127);
            }
        }
        Check.finish();
    }

    private static String indent(String line) {
        return line.substring(0, line.length() - line.stripLeading().length());
    }
}
