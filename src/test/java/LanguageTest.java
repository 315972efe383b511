import java.nio.charset.StandardCharsets;
import java.nio.file.Files;
import java.nio.file.Path;
import java.util.Map;
import java.util.Set;
import java.util.TreeMap;
import java.util.TreeSet;
import java.util.regex.Matcher;
import java.util.regex.Pattern;

/** What can be seen of LANGUAGE.md in the text of the program; run from the project's folder. */
public final class LanguageTest {
    private static final String[] FORBIDDEN = {
        "\\b(throw|throws|try|catch|finally|synchronized|assert|native|volatile|transient|import|package)\\b",
        "->", "::", "\\bstatic\\s*\\{", "\\b(protected|default\\s+\\w+\\s*\\()\\b", "\\b\\w+Exact\\b",
        "\\b(Thread|System\\.(?!arraycopy)\\w+|Random|Runtime|Object|Exception|Class)\\b",
        "\\b(equals|hashCode|toString)\\s*\\(", "\\b(double|float)\\b", "\\bvar\\b"};

    private static void forbidden(String code) {
        for (String rule : FORBIDDEN) {
            Matcher m = Pattern.compile(rule).matcher(code);
            while (m.find()) {
                Due.fault("the program has '" + m.group() + "', which is ruled out");
            }
        }
    }

    private static void signs(byte[] bytes) {
        for (byte b : bytes) {
            if (b < 1) {
                Due.fault("the program has a sign that is not 1 to 127");
            }
        }
    }

    /** Bodies of methods, by name: what stands between a line that opens one and the line that closes it. */
    private static Map<String, String> bodies(String[] lines) {
        Map<String, String> bodies = new TreeMap<>();
        Pattern opening = Pattern.compile("^( {4}| {8})(?=\\w)[\\w\\[\\]<> ]*?(\\w+)\\(([^)]*)\\) \\{$");
        for (int i = 0; i < lines.length; i++) {
            Matcher m = opening.matcher(lines[i]);
            if (!m.matches()) {
                continue;
            }
            StringBuilder body = new StringBuilder();
            int end = i + 1;
            while (end < lines.length && !lines[end].equals(m.group(1) + "}")) {
                body.append(lines[end]).append('\n');
                end++;
            }
            if (end - i > 60) {
                Due.fault("more than sixty lines: " + lines[i]);
            }
            if (m.group(3).split(",").length > 7) {
                Due.fault("more than seven parameters: " + lines[i]);
            }
            bodies.merge(m.group(2), body.toString(), String::concat);
        }
        return bodies;
    }

    /** Methods of one name count as one, so that this is never too low; -1: a method calls itself on some way. */
    private static int depth(String name, Map<String, String> bodies, Set<String> standing) {
        if (!standing.add(name)) {
            return -1;
        }
        int deepest = 0;
        Matcher m = Pattern.compile("\\b(\\w+)\\(").matcher(bodies.get(name));
        while (m.find() && deepest >= 0) {
            if (bodies.containsKey(m.group(1))) {
                int below = depth(m.group(1), bodies, standing);
                deepest = below < 0 ? -1 : Math.max(deepest, below);
            }
        }
        standing.remove(name);
        return deepest < 0 ? -1 : deepest + 1;
    }

    private static void methods(Map<String, String> bodies) {
        for (String name : bodies.keySet()) {
            int depth = depth(name, bodies, new TreeSet<>());
            if (depth < 0 || depth > 8) {
                Due.fault(name + " goes more than eight calls deep, or calls itself");
            }
            // Calls are to make nothing: all calls of a run live in one room.
            boolean makes = Pattern.compile("\\bnew\\b|\\.clone\\(|copyOf|\"").matcher(bodies.get(name)).find();
            if (makes && !Character.isUpperCase(name.charAt(0))) {
                Due.fault(name + " makes an object and is no constructor");
            }
        }
        Due.due("methods are found", bodies.size() >= 60 && bodies.containsKey("told") ? 1 : 0, 1);
    }

    public static void main(String[] args) throws Exception {
        byte[] bytes = Files.readAllBytes(Path.of("src/main/java/EvenWhite.java"));
        String text = new String(bytes, StandardCharsets.ISO_8859_1);
        String code = text.replaceAll("(?s)/\\*.*?\\*/", "").replaceAll("//[^\n]*", "");
        signs(bytes);
        forbidden(code);
        methods(bodies(code.split("\n")));
        Due.due("classes", Pattern.compile("\\bclass\\b").matcher(code).results().count() <= 12 ? 1 : 0, 1);
        Due.end();
    }
}
