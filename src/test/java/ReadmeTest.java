import java.io.IOException;
import java.lang.reflect.Method;
import java.nio.file.Files;
import java.nio.file.Path;
import java.util.List;
import java.util.Set;
import java.util.TreeSet;
import java.util.regex.Matcher;
import java.util.regex.Pattern;
import java.util.stream.Collectors;
import java.util.stream.Stream;

/** README.md against the document's face, the class and the directory of tests: what it says is so, and nothing is left out. */
public final class ReadmeTest {
    private static final Checks CHECKS = new Checks();
    private static final int METHODS = 26;
    private static final int EXAMPLES_AT_LEAST = 30;

    public static void main(String[] args) throws IOException, ReflectiveOperationException {
        String readme = Files.readString(Path.of("README.md"));
        String source = Files.readString(Path.of("src/main/java/CoatRows.java"));
        String document = Files.readString(Path.of("../shared/DOC.md"));
        methods(readme, source, document);
        constants(readme, document);
        example(readme);
        tests(readme);
        CHECKS.end("ReadmeTest");
    }

    private static void is(String what, boolean so) {
        CHECKS.due(what, 1, so ? 1 : 0);
    }

    private static void methods(String readme, String source, String document) {
        Matcher face = Pattern.compile("(?m)^ {4}public ((?:int|long) \\w+\\([^)]*\\));$").matcher(document);
        int found = 0;
        while (face.find()) {
            found++;
            is("the class has " + face.group(1), source.contains("\n    public " + face.group(1) + " {\n"));
            is("the page has " + face.group(1), readme.contains("\n| `" + face.group(1) + "` | "));
        }
        CHECKS.due("methods of the document", METHODS, found);
        CHECKS.due("methods of the page", METHODS, Pattern.compile("(?m)^\\| `(int|long) ").matcher(readme).results().count());
    }

    private static void constants(String readme, String document) throws ReflectiveOperationException {
        for (String name : List.of("BAD", "STATE", "FULL", "NONE", "NO")) {
            int value = CoatRows.class.getField(name).getInt(null);
            is("the document has " + name, document.contains(name + " = " + value));
            is("the page has " + name, readme.contains("\n| `" + name + "` | " + value + " | "));
        }
    }

    /** The lines of the page's last block of Java, each a call with what it answers behind it. */
    private static void example(String readme) throws ReflectiveOperationException {
        int start = readme.lastIndexOf("```java\n");
        String block = readme.substring(start, readme.indexOf("\n```\n", start));
        Pattern call = Pattern.compile("x\\.(\\w+)\\(([^)]*)\\); +// (-?\\d+)(:.*)?");
        CoatRows x = new CoatRows();
        Set<String> asked = new TreeSet<>();
        int made = 0;
        for (String line : block.split("\n")) {
            if (!line.startsWith("x.")) {
                continue;
            }
            Matcher matcher = call.matcher(line);
            is("a call with its answer: " + line, matcher.matches());
            if (matcher.matches()) {
                made++;
                asked.add(matcher.group(1));
                CHECKS.due(line, Long.parseLong(matcher.group(3)), answer(x, matcher.group(1), matcher.group(2)));
            }
        }
        is("calls of the example, only " + made + " of " + asked, made >= EXAMPLES_AT_LEAST && made <= 512);
    }

    private static long answer(CoatRows x, String name, String arguments) throws ReflectiveOperationException {
        for (Method method : CoatRows.class.getMethods()) {
            if (method.getName().equals(name)) {
                String[] signs = arguments.isEmpty() ? new String[0] : arguments.split(", *");
                Object[] values = new Object[signs.length];
                for (int i = 0; i < signs.length; i++) {
                    boolean wide = method.getParameterTypes()[i] == long.class;
                    long value = number(signs[i]);
                    values[i] = wide ? (Object) value : (Object) (int) value;
                }
                return ((Number) method.invoke(x, values)).longValue();
            }
        }
        throw new IllegalStateException("the page has a call that is none: " + name);
    }

    private static long number(String sign) {
        return sign.startsWith("'") ? sign.charAt(1) : Long.decode(sign.replace("L", ""));
    }

    private static void tests(String readme) throws IOException {
        Set<String> there;
        try (Stream<Path> files = Files.list(Path.of("src/test/java"))) {
            there = files.map(file -> file.getFileName().toString()).filter(name -> name.endsWith("Test.java"))
                .map(name -> name.replace(".java", "")).collect(Collectors.toCollection(TreeSet::new));
        }
        Set<String> told = Pattern.compile("(?m)^- `(\\w+)` ").matcher(readme).results().map(found -> found.group(1))
            .collect(Collectors.toCollection(TreeSet::new));
        is("the tests " + there + " are told as " + told, there.equals(told));
        is("the page says how tests are run", readme.contains("\n    .ci/run\n"));
        is("that can be run", Files.isExecutable(Path.of(".ci/run")));
    }
}
