import java.io.IOException;
import java.lang.reflect.Method;
import java.lang.reflect.Modifier;
import java.nio.file.Files;
import java.nio.file.Path;
import java.util.HashMap;
import java.util.HashSet;
import java.util.Map;
import java.util.Set;
import java.util.regex.Matcher;
import java.util.regex.Pattern;

/** README.md's example answers as its comments say, and its rules can be read; run from the project's root. */
public final class ReadmeTest {
    private static final Checks CHECKS = new Checks();
    private static final Pattern CALL =
            Pattern.compile("(?:int (\\w+) = )?road\\.(\\w+)\\((.*?)\\); +// (-?\\d+)\\b.*");
    private static final String START = "CaravanRoad road = new CaravanRoad();";

    public static void main(String[] args) throws IOException, ReflectiveOperationException {
        String readme = Files.readString(Path.of("README.md"));
        example(block(readme, "java"));
        rules(block(readme, "text"));
        CHECKS.due(".ci/run is named", readme.contains("\n.ci/run\n") ? 1 : 0, 1);
        CHECKS.end();
    }

    private static String block(String readme, String language) {
        Matcher m = Pattern.compile("```" + language + "\n(.*?)```", Pattern.DOTALL).matcher(readme);
        return m.find() ? m.group(1) : "";
    }

    private static void example(String lines) throws ReflectiveOperationException {
        CaravanRoad road = new CaravanRoad();
        Map<String, Integer> names = new HashMap<>();
        Set<String> used = new HashSet<>();
        for (String line : lines.split("\n")) {
            Matcher m = CALL.matcher(line);
            if (m.matches()) {
                int answer = call(road, m.group(2), m.group(3), names);
                CHECKS.due(line, answer, Integer.parseInt(m.group(4)));
                used.add(m.group(2));
                if (m.group(1) != null) {
                    names.put(m.group(1), answer);
                }
            } else {
                boolean isNoCall = line.isEmpty() || line.startsWith("//") || line.equals(START);
                CHECKS.due("a line without an answer: " + line, isNoCall ? 1 : 0, 1);
            }
        }
        for (Method m : CaravanRoad.class.getDeclaredMethods()) {
            if (Modifier.isPublic(m.getModifiers())) {
                CHECKS.due("README.md shows " + m.getName(), used.contains(m.getName()) ? 1 : 0, 1);
            }
        }
    }

    private static int call(CaravanRoad road, String name, String arguments, Map<String, Integer> names)
            throws ReflectiveOperationException {
        String[] words = arguments.isEmpty() ? new String[0] : arguments.split(", ");
        Object[] values = new Object[words.length];
        for (int i = 0; i < words.length; i++) {
            values[i] = value(words[i], names);
        }
        for (Method m : CaravanRoad.class.getDeclaredMethods()) {
            if (m.getName().equals(name)) {
                return (int) m.invoke(road, values);
            }
        }
        throw new NoSuchMethodException(name);
    }

    private static Object value(String word, Map<String, Integer> names) {
        if (word.equals("true") || word.equals("false")) {
            return word.equals("true");
        }
        return names.containsKey(word) ? names.get(word) : Integer.decode(word);
    }

    /** A rule a line, up to its semicolon; what stands behind it is said to the reader alone. */
    private static void rules(String lines) {
        String[] rules = lines.split("\n");
        StringBuilder text = new StringBuilder();
        for (String line : rules) {
            text.append(line, 0, line.indexOf(';') + 1);
        }
        CHECKS.good(text.toString(), rules.length);
    }
}
