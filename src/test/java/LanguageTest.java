import java.io.IOException;
import java.lang.reflect.Method;
import java.nio.file.Files;
import java.nio.file.Path;
import java.util.HashMap;
import java.util.HashSet;
import java.util.Map;
import java.util.Set;
import java.util.regex.Matcher;
import java.util.regex.Pattern;

/** The rules of LANGUAGE.md that can be seen in the source's words; it is run from the project's root. */
public final class LanguageTest {
    private static final Checks CHECKS = new Checks();
    private static final String[] FORBIDDEN = {"\\bthrow\\b", "\\bthrows\\b", "\\btry\\b", "\\bcatch\\b",
        "\\bsynchronized\\b", "\\bassert\\b", "->", "::", "\\bimport\\b", "\\bpackage\\b", "\\bprotected\\b",
        "Exact\\b", "\\bstatic \\{", "\\bvolatile\\b", "\\bSystem\\.(?!arraycopy)", "\\bObject\\b",
        "\\bhashCode\\b", "\\btoString\\b", "\\]\\[[^\\]]*\\]\\["};

    // A method ends at the first line that closes it with its own indentation.
    private static final Pattern METHOD = Pattern.compile(
            "\\n( +)(?:\\w+ )*[\\w\\[\\]]+ (\\w+)\\([^;{]*\\) \\{(.*?)\\n\\1\\}", Pattern.DOTALL);

    public static void main(String[] args) throws IOException {
        String source = Files.readString(Path.of("src/main/java/CaravanRoad.java"));
        String code = source.replaceAll("(?s)/\\*.*?\\*/", "").replaceAll("//[^\n]*", "")
                .replaceAll("\"[^\"\n]*\"", "\"\"");
        for (String words : FORBIDDEN) {
            due("uses of " + words, count(code, words), 0);
        }
        due("characters beyond ASCII", count(source, "[^\\x00-\\x7f]"), 0);
        due("static fields that are not final", count(code, "\\bstatic (?!final)[\\w\\[\\]]+ \\w+ *[;=]"), 0);
        due("public classes", count(code, "\\bpublic (final )?class\\b"), 1);
        due("classes that are not static", count(code, "private (?!static)[\\w ]*class\\b"), 0);
        yes("some twelve classes", count(code, "\\bclass\\b") <= 12);
        due("names of the library but Math", count(code, "\\b(?!Math\\b)[A-Z][a-z]\\w*\\.\\w"), 0);
        due("divisions", count(code, "[/%]"), 0);
        due("loops without a bound", count(code, "while \\(true\\)|for \\([^;]*; *;"), 0);
        objectsAreMadeByConstructors(code);
        methodsAreShort(code);
        callsAreNotDeep(code);
        names();
        CHECKS.end();
    }

    /** 'new' stands in a field's first value or in a constructor alone. */
    private static void objectsAreMadeByConstructors(String code) {
        int inFields = count(code, "final [\\w\\[\\]]+ \\w+ = new ");
        Matcher m = Pattern.compile("\\n( +)(?:public )?[A-Z]\\w+\\([^)]*\\) \\{(.*?)\\n\\1\\}", Pattern.DOTALL)
                .matcher(code);
        int inConstructors = 0;
        while (m.find()) {
            inConstructors += count(m.group(2), "\\bnew ");
        }
        due("objects made elsewhere", count(code, "\\bnew ") - inFields - inConstructors, 0);
    }

    private static void methodsAreShort(String code) {
        Matcher m = METHOD.matcher(code);
        int methods = 0;
        while (m.find()) {
            methods++;
            yes("lines of " + m.group(2), m.group(3).lines().count() <= 60);
        }
        yes("methods found: " + methods, methods > 80);
    }

    /**
     * Calls that are no recursion go at most eight deep, the library's among them. Methods of one
     * name are taken for one, so what is found is at least as deep as what can be.
     */
    private static void callsAreNotDeep(String code) {
        Map<String, Set<String>> calls = new HashMap<>();
        Matcher m = METHOD.matcher(code);
        while (m.find()) {
            Set<String> called = calls.computeIfAbsent(m.group(2), name -> new HashSet<>());
            Matcher call = Pattern.compile("\\b([a-z]\\w*)\\(").matcher(m.group(3));
            while (call.find()) {
                called.add(call.group(1));
            }
            called.remove(m.group(2));
        }
        for (String name : calls.keySet()) {
            int deep = depth(name, calls, 0);
            yes("calls from " + name + " go " + deep + " deep", deep <= 8);
        }
        yes("calls are found", depth("state", calls, 0) > 5);
    }

    /** Stops at thirty, so that a ring of calls is found as one that is too deep. */
    private static int depth(String name, Map<String, Set<String>> calls, int above) {
        int deepest = 0;
        if (above < 30) {
            for (String called : calls.getOrDefault(name, Set.of())) {
                deepest = Math.max(deepest, depth(called, calls, above + 1));
            }
        }
        return deepest + 1;
    }

    /** No method inside bears the name of a public one, and none takes more than seven arguments. */
    private static void names() {
        Set<String> face = new HashSet<>();
        for (Method m : CaravanRoad.class.getMethods()) {
            if (m.getDeclaringClass() == CaravanRoad.class) {
                face.add(m.getName());
            }
        }
        for (Class<?> c : CaravanRoad.class.getDeclaredClasses()) {
            yes("fields of " + c.getName(), c.getDeclaredFields().length <= 20);
            for (Method m : c.getDeclaredMethods()) {
                yes("the name " + m.getName(), !face.contains(m.getName()));
                yes("arguments of " + m.getName(), m.getParameterCount() <= 7);
            }
        }
    }

    private static int count(String text, String pattern) {
        return (int) Pattern.compile(pattern).matcher(text).results().count();
    }

    private static void yes(String what, boolean holds) {
        due(what, holds ? 1 : 0, 1);
    }

    private static void due(String call, long got, long want) {
        CHECKS.due(call, got, want);
    }
}
