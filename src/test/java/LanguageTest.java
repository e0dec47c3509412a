import java.lang.reflect.Executable;
import java.lang.reflect.Field;
import java.lang.reflect.Modifier;
import java.nio.file.Files;
import java.nio.file.Path;
import java.util.ArrayList;
import java.util.Arrays;
import java.util.List;
import java.util.Set;
import java.util.regex.Matcher;
import java.util.regex.Pattern;

/** Those rules of LANGUAGE.md that can be read off the source and the compiled class, as far as this class needs them. */
public final class LanguageTest {
    private static final Path SOURCE = Path.of("src/main/java/SilenceMinute.java");
    private static final Pattern LIBRARY = Pattern.compile("\\b([A-Z][a-z]+)\\.(\\w+)\\(");
    private static final Set<String> LIBRARY_USED = Set.of("Math.max", "Math.min", "Integer.bitCount");
    // The document names no exception, so the class needs none of the words of rule 6 either.
    private static final Pattern NOT_NEEDED = Pattern.compile("\\b(package|import|try|catch|throw|throws|finally"
        + "|synchronized|assert|native|volatile|transient)\\b|->|::|@|static \\{");
    private static final Set<Class<?>> PLAIN = Set.of(int.class, long.class, boolean.class);
    private static final Due due = new Due("LanguageTest");

    public static void main(String[] args) throws Exception {
        List<String> lines = Files.readAllLines(SOURCE);
        words(lines);
        methods(lines);
        List<Class<?>> all = new ArrayList<>(Arrays.asList(SilenceMinute.class.getDeclaredClasses()));
        all.add(SilenceMinute.class);
        due.sentence("11 at most some twelve classes");
        due.truth(all.size() + " classes", all.size() <= 12);
        for (Class<?> one : all) {
            fields(one);
            parameters(one, one.getDeclaredMethods());
            parameters(one, one.getDeclaredConstructors());
        }
        due.end();
    }

    private static void words(List<String> lines) {
        for (int i = 0; i < lines.size(); i++) {
            String code = lines.get(i).replaceAll("//.*|/\\*\\*.*|^ *\\*.*", "");
            due.sentence("rules 3 to 6, line " + (i + 1));
            due.truth("signs 1 to 127", lines.get(i).chars().allMatch(sign -> sign >= 1 && sign <= 127));
            Matcher left = NOT_NEEDED.matcher(code);
            due.truth("no such word", !left.find());
            Matcher library = LIBRARY.matcher(code);
            while (library.find()) {
                String call = library.group(1) + "." + library.group(2);
                due.truth(call + " is in the library", LIBRARY_USED.contains(call));
            }
        }
    }

    /** A method's first line ends in ") {", its last is a bracket as far to the right as the first. */
    private static void methods(List<String> lines) {
        Pattern head = Pattern.compile("( {4}| {8})(?:\\w\\S* )*(\\w+)\\([^()]*\\) \\{");
        int methods = 0;
        for (int i = 0; i < lines.size(); i++) {
            Matcher first = head.matcher(lines.get(i));
            if (!first.matches()) {
                continue;
            }
            methods++;
            String last = first.group(1) + "}";
            int end = i + lines.subList(i, lines.size()).indexOf(last);
            due.sentence("11 methods stay short (some sixty lines)");
            due.truth(first.group(2) + " has " + (end - i + 1) + " lines", end > i && end - i + 1 <= 60);
            due.sentence("12 what a run makes is counted: no call makes an object");
            boolean makes = lines.subList(i, end + 1).stream().anyMatch(line -> line.matches(".*\\bnew\\b.*"));
            due.truth(first.group(2) + " makes one", !makes || Character.isUpperCase(first.group(2).charAt(0)));
        }
        due.truth("methods are found: " + methods, methods > 32);
    }

    private static void fields(Class<?> one) {
        int many = 0;
        for (Field f : one.getDeclaredFields()) {
            if (Modifier.isStatic(f.getModifiers())) {
                due.sentence("5 static fields are final");
                due.truth(f + " is a constant", Modifier.isFinal(f.getModifiers()) && PLAIN.contains(f.getType()));
            } else {
                many++;
                due.sentence("3 types");
                boolean own = f.getType().getName().startsWith("SilenceMinute$");
                due.truth(f.toString(), own || f.getType() == int[].class || PLAIN.contains(f.getType()));
            }
        }
        due.sentence("11 a class some twenty fields");
        due.truth(one + " has " + many, many <= 20);
    }

    private static void parameters(Class<?> one, Executable[] methods) {
        due.sentence("11 at most seven parameters");
        for (Executable m : methods) {
            due.truth(one + ", " + m, m.getParameterCount() <= 7);
        }
    }
}
