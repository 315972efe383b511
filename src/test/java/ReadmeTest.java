import java.lang.reflect.Method;
import java.nio.file.Files;
import java.nio.file.Path;
import java.util.regex.Matcher;
import java.util.regex.Pattern;

/** The example of README.md, call by call, each with the answer that stands behind it; run from the project's folder. */
public final class ReadmeTest {
    private static final Pattern CALL = Pattern.compile("x\\.(\\w+)\\(([^)]*)\\);\\s*// (-?\\d+|[A-Z]+)\\b.*");

    private static Method named(String name) {
        for (Method m : EvenWhite.class.getDeclaredMethods()) {
            if (m.getName().equals(name)) {
                return m;
            }
        }
        throw new IllegalArgumentException("no call " + name);
    }

    private static long answer(EvenWhite x, String name, String arguments) throws ReflectiveOperationException {
        String[] parts = arguments.isEmpty() ? new String[0] : arguments.split(", ");
        Object[] values = new Object[parts.length];
        for (int i = 0; i < parts.length; i++) {
            values[i] = Integer.valueOf(parts[i]);
        }
        return ((Number) named(name).invoke(x, values)).longValue();
    }

    private static long due(String answer) throws ReflectiveOperationException {
        boolean figures = !Character.isLetter(answer.charAt(0));
        return figures ? Long.parseLong(answer) : EvenWhite.class.getField(answer).getInt(null);
    }

    private static void example(String readme) throws ReflectiveOperationException {
        int start = readme.indexOf("```java\n") + 8;
        String[] lines = readme.substring(start, readme.indexOf("```", start)).split("\n");
        EvenWhite x = new EvenWhite();
        for (int i = 1; i < lines.length; i++) {
            Matcher m = CALL.matcher(lines[i]);
            if (m.matches()) {
                Due.due(lines[i], answer(x, m.group(1), m.group(2)), due(m.group(3)));
            } else {
                Due.fault("not a call with its answer: " + lines[i]);
            }
        }
        if (lines.length < 2) {
            Due.fault("README.md has no example");
        }
    }

    private static void written() {
        EvenWhite x = new EvenWhite();
        x.side(0, 1, 0, 5);
        x.weight(0, 1, 2);
        x.set(0);
        x.set(1);
        String text = "a=b:255/8";
        for (int i = 0; i < text.length(); i++) {
            Due.due("sign " + i + " of " + text, x.sign(i), text.charAt(i));
        }
    }

    public static void main(String[] args) throws Exception {
        String readme = Files.readString(Path.of("README.md"));
        example(readme);
        written();
        for (Method m : EvenWhite.class.getDeclaredMethods()) {
            if (java.lang.reflect.Modifier.isPublic(m.getModifiers()) && !readme.contains("`" + m.getName() + "(")) {
                Due.fault("README.md does not tell " + m.getName());
            }
        }
        Due.end();
    }
}
