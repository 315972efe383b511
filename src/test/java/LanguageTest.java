import java.nio.charset.StandardCharsets;
import java.nio.file.Files;
import java.nio.file.Path;
import java.util.regex.Matcher;
import java.util.regex.Pattern;

/** What can be seen of LANGUAGE.md in the text of the program; run from the project's folder. */
public final class LanguageTest {
    private static final String[] FORBIDDEN = {
        "\\b(throw|throws|try|catch|finally|synchronized|assert|native|volatile|transient|import|package)\\b",
        "->", "::", "\\bstatic\\s*\\{", "\\b(protected|default\\s+\\w+\\s*\\()\\b", "\\b\\w+Exact\\b",
        "\\b(Thread|System\\.(?!arraycopy)\\w+|Random|Runtime|Object|Exception|Class)\\b",
        "\\b(equals|hashCode|toString)\\s*\\(", "\\b(double|float)\\b", "\\bvar\\b"};

    private static void forbidden(String code) {
        for (String rule : FORBIDDEN) {
            Matcher m = Pattern.compile(rule).matcher(code);
            while (m.find()) {
                Due.fault("the program has '" + m.group() + "', which is ruled out");
            }
        }
    }

    private static void signs(byte[] bytes) {
        for (byte b : bytes) {
            if (b < 1) {
                Due.fault("the program has a sign that is not 1 to 127");
            }
        }
    }

    /** Bodies of methods: what stands between a line that opens one and the line that closes it. */
    private static void lengths(String[] lines) {
        Pattern opening = Pattern.compile("^( {4}| {8})(?=\\w)[\\w\\[\\]<> ]+\\(([^)]*)\\) \\{$");
        for (int i = 0; i < lines.length; i++) {
            Matcher m = opening.matcher(lines[i]);
            if (!m.matches()) {
                continue;
            }
            int end = i;
            while (end < lines.length && !lines[end].equals(m.group(1) + "}")) {
                end++;
            }
            if (end - i > 60) {
                Due.fault("more than sixty lines: " + lines[i]);
            }
            if (m.group(2).split(",").length > 7) {
                Due.fault("more than seven parameters: " + lines[i]);
            }
        }
    }

    public static void main(String[] args) throws Exception {
        byte[] bytes = Files.readAllBytes(Path.of("src/main/java/EvenWhite.java"));
        String text = new String(bytes, StandardCharsets.ISO_8859_1);
        String code = text.replaceAll("(?s)/\\*.*?\\*/", "").replaceAll("//[^\n]*", "");
        signs(bytes);
        forbidden(code);
        lengths(code.split("\n"));
        Due.due("classes", Pattern.compile("\\bclass\\b").matcher(code).results().count() <= 12 ? 1 : 0, 1);
        Due.end();
    }
}
