import java.lang.reflect.Method;
import java.lang.reflect.Modifier;
import java.nio.file.Files;
import java.nio.file.Path;
import java.util.ArrayList;
import java.util.HashSet;
import java.util.List;
import java.util.Set;
import java.util.regex.Matcher;
import java.util.regex.Pattern;

/** The runs of calls in README.md, each call with the answer that stands behind it; all on one object. */
public final class ReadmeTest {
    private static final Pattern CALL = Pattern.compile("x\\.(\\w+)\\(([^)]*)\\);");
    private static final Due due = new Due("ReadmeTest");
    private static final SilenceMinute x = new SilenceMinute();
    private static final Set<String> used = new HashSet<>();

    public static void main(String[] args) throws Exception {
        boolean inJava = false;
        for (String line : Files.readAllLines(Path.of("README.md"))) {
            if (line.startsWith("```")) {
                inJava = line.equals("```java");
            } else if (inJava && line.startsWith("x.")) {
                askLine(line);
            }
        }
        for (Method m : SilenceMinute.class.getDeclaredMethods()) {
            if (Modifier.isPublic(m.getModifiers())) {
                due.truth("README.md uses " + m.getName(), used.contains(m.getName()));
            }
        }
        due.end();
    }

    /** Some calls, then behind // as many answers, with commas between them, up to the first colon. */
    private static void askLine(String line) throws Exception {
        String[] halves = line.split("//", 2);
        List<Long> got = new ArrayList<>();
        Matcher calls = CALL.matcher(halves[0]);
        while (calls.find()) {
            got.add(ask(calls.group(1), calls.group(2)));
        }
        due.same("halves of " + line, halves.length, 2);
        String[] answers = halves.length < 2 ? new String[0] : halves[1].split(":", 2)[0].split(",");
        due.same("answers in " + line, answers.length, got.size());
        for (int i = 0; i < answers.length && i < got.size(); i++) {
            due.same("answer " + i + " of " + line, got.get(i), answer(answers[i].trim()));
        }
    }

    private static long answer(String text) throws Exception {
        if (text.matches("-?[0-9]+")) {
            return Long.parseLong(text);
        }
        return ((Number) SilenceMinute.class.getField(text).get(null)).longValue();
    }

    private static long ask(String name, String words) throws Exception {
        used.add(name);
        String[] parts = words.isEmpty() ? new String[0] : words.split(", ");
        for (Method m : SilenceMinute.class.getDeclaredMethods()) {
            if (m.getName().equals(name) && m.getParameterCount() == parts.length) {
                Object[] values = new Object[parts.length];
                for (int i = 0; i < parts.length; i++) {
                    values[i] = value(parts[i]);
                }
                return ((Number) m.invoke(x, values)).longValue();
            }
        }
        throw new IllegalArgumentException("README.md calls what is not there: " + name + "(" + words + ")");
    }

    private static Object value(String word) {
        if (word.equals("true") || word.equals("false")) {
            return Boolean.valueOf(word);
        }
        return word.startsWith("'") ? (int) word.charAt(1) : Integer.parseInt(word);
    }
}
