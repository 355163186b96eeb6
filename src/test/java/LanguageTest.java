import java.io.DataInputStream;
import java.io.IOException;
import java.lang.reflect.Constructor;
import java.lang.reflect.Field;
import java.lang.reflect.Method;
import java.lang.reflect.Modifier;
import java.nio.file.Files;
import java.nio.file.Path;
import java.util.Arrays;
import java.util.List;
import java.util.Set;
import java.util.TreeSet;
import java.util.regex.Matcher;
import java.util.regex.Pattern;

/** What LANGUAGE.md rules out, as far as the source's words and the class's members show it. */
public final class LanguageTest {
    private static final Checks CHECKS = new Checks();
    private static final String FACE = "about(int,int) back(int) bill(int,int) billed(int) book() chip() clear() "
        + "coat(int,int,int) colour(int,int) count(int) day(int,int) drop(int) enough(int,int) face(int,int) had(int) keep(int) "
        + "laid(int,int,int) least(int,int) next() painting(int) rank(int,int,int) span(int,int) trace() tune(int,int) "
        + "type(long,int) ways(int,int)";

    /** What may be called, as compiled classes name it; the list of the rules is longer than what the class needs. */
    private static final String CALLS = "CoatRows.*|java/lang/Object\\.<init>|java/lang/System\\.arraycopy|java/util/Arrays\\.fill"
        + "|java/lang/Math\\.(max|min|abs)|java/lang/Integer\\.bitCount|java/lang/String\\.(length|charAt)";

    public static void main(String[] args) throws IOException {
        String source = Files.readString(Path.of("src/main/java/CoatRows.java"));
        String code = source.replaceAll("(?s)/\\*.*?\\*/|//[^\\n]*", "").replaceAll("\"[^\"\\n]*\"", "\"\"");
        signs(source);
        words(code);
        names(code);
        methods(code);
        face();
        insides();
        library();
        CHECKS.end("LanguageTest");
    }

    private static void no(String what, boolean found) {
        CHECKS.due(what, 0, found ? 1 : 0);
    }

    private static void signs(String source) {
        no("a sign beyond 127", source.chars().anyMatch(sign -> sign > 127));
    }

    private static void words(String code) {
        String[] words = {"throw", "throws", "try", "catch", "finally", "synchronized", "assert", "package", "protected", "volatile",
            "native", "transient", "Object", "hashCode", "toString", "getClass", "Thread", "System\\.(?!arraycopy)", "\\w+Exact",
            "Character", "Double", "Float", "Boolean", "Collections", "Map", "Set", "Scanner", "Random", "stream", "String\\."};
        for (String word : words) {
            no("the word " + word, Pattern.compile("\\b" + word + (word.endsWith(")") || word.endsWith(".") ? "" : "\\b")).matcher(code).find());
        }
        no("a lambda", code.contains("->"));
        no("a method reference", code.contains("::"));
        no("a static block", Pattern.compile("static\\s*\\{").matcher(code).find());
        no("texts joined by +", Pattern.compile("\"\\s*\\+|\\+\\s*\"").matcher(code).find());
        no("an anonymous class", Pattern.compile("new\\s+\\w+\\s*\\([^)]*\\)\\s*\\{").matcher(code).find());
        Matcher imports = Pattern.compile("import\\s+([^;]+);").matcher(code);
        while (imports.find()) {
            CHECKS.due("import " + imports.group(1), 1, Set.of("java.util.Arrays", "java.util.List", "java.util.ArrayList").contains(imports.group(1)) ? 1 : 0);
        }
        Matcher fills = Pattern.compile("Arrays\\.(\\w+)").matcher(code);
        while (fills.find()) {
            CHECKS.due("Arrays." + fills.group(1), 1, Set.of("fill", "copyOf", "copyOfRange").contains(fills.group(1)) ? 1 : 0);
        }
    }

    private static void names(String code) {
        Set<String> open = new TreeSet<>();
        for (Method method : CoatRows.class.getDeclaredMethods()) {
            if (Modifier.isPublic(method.getModifiers())) {
                open.add(method.getName());
            }
        }
        int found = 0;
        for (Method method : CoatRows.class.getDeclaredMethods()) {
            if (!Modifier.isPublic(method.getModifiers())) {
                found++;
                no("a private method with a public name: " + method.getName(), open.contains(method.getName()));
            }
        }
        CHECKS.due("private methods seen", 1, found > 0 ? 1 : 0);
    }

    /** A method begins on a line that is indented by four or eight and ends with the closing brace below it. */
    private static void methods(String code) {
        String[] lines = code.split("\n");
        Pattern head = Pattern.compile("^( {4}| {8})(?! )[\\w\\[\\] ]+\\(([^)]*)\\) \\{$");
        int seen = 0;
        for (int i = 0; i < lines.length; i++) {
            Matcher matcher = head.matcher(lines[i]);
            if (!matcher.find() || lines[i].contains(" class ") || lines[i].matches("^\\s*(for|while|if|switch)\\b.*")) {
                continue;
            }
            seen++;
            String parameters = matcher.group(2);
            int many = parameters.isBlank() ? 0 : parameters.split(",").length;
            no("more than seven parameters: " + lines[i], many > 7);
            int end = i + 1;
            while (!lines[end].equals(matcher.group(1) + "}")) {
                end++;
            }
            no("more than sixty lines: " + lines[i], end - i - 1 > 60);
        }
        CHECKS.due("methods seen", 1, seen > 60 ? 1 : 0);
    }

    private static void face() {
        no("the class is not public and final", CoatRows.class.getModifiers() != (Modifier.PUBLIC | Modifier.FINAL));
        Set<String> methods = new TreeSet<>();
        for (Method method : CoatRows.class.getDeclaredMethods()) {
            if (Modifier.isPublic(method.getModifiers())) {
                List<String> types = Arrays.stream(method.getParameterTypes()).map(Class::getName).toList();
                methods.add(method.getName() + "(" + String.join(",", types) + ")");
                boolean wide = method.getName().equals("ways") || method.getName().equals("trace");
                no("what " + method.getName() + " answers", method.getReturnType() != (wide ? long.class : int.class));
                no("a static method of the face", Modifier.isStatic(method.getModifiers()));
            } else {
                no("a method that is not private: " + method.getName(), !Modifier.isPrivate(method.getModifiers()));
            }
        }
        no("the face is " + methods, !methods.equals(new TreeSet<>(Arrays.asList(FACE.split(" ")))));
        Constructor<?>[] constructors = CoatRows.class.getDeclaredConstructors();
        no("the constructor", constructors.length != 1 || constructors[0].getModifiers() != Modifier.PUBLIC
            || constructors[0].getParameterCount() != 0);
        Set<String> constants = new TreeSet<>();
        for (Field field : CoatRows.class.getDeclaredFields()) {
            if (Modifier.isPublic(field.getModifiers())) {
                constants.add(field.getName());
                no("a constant that is none: " + field, field.getType() != int.class
                    || field.getModifiers() != (Modifier.PUBLIC | Modifier.STATIC | Modifier.FINAL));
            } else {
                no("a field that is not private: " + field, !Modifier.isPrivate(field.getModifiers()));
            }
        }
        no("the constants are " + constants, !constants.equals(Set.of("BAD", "STATE", "FULL", "NONE", "NO")));
        CHECKS.due("BAD", -1, CoatRows.BAD);
        CHECKS.due("STATE", -2, CoatRows.STATE);
        CHECKS.due("FULL", -3, CoatRows.FULL);
        CHECKS.due("NONE", -9, CoatRows.NONE);
        CHECKS.due("NO", -1000000, CoatRows.NO);
    }

    private static void insides() {
        Class<?>[] insides = CoatRows.class.getDeclaredClasses();
        no("too many classes", insides.length > 11);
        fields(CoatRows.class);
        for (Class<?> inside : insides) {
            no("not static: " + inside, !Modifier.isStatic(inside.getModifiers()));
            no("public or protected: " + inside, Modifier.isPublic(inside.getModifiers()) || Modifier.isProtected(inside.getModifiers()));
            fields(inside);
        }
    }

    private static void fields(Class<?> type) {
        int own = 0;
        for (Field field : type.getDeclaredFields()) {
            if (!Modifier.isStatic(field.getModifiers())) {
                own++;
                continue;
            }
            no("a static field that is not final: " + field, !Modifier.isFinal(field.getModifiers()));
            Class<?> kind = field.getType();
            no("a static field of another kind: " + field, !Set.of(int.class, long.class, boolean.class, char.class, String.class,
                int[].class, long[].class, char[].class, byte[].class).contains(kind));
        }
        no("too many fields: " + type, own > 20);
    }

    private static void library() throws IOException {
        library(CoatRows.class);
        for (Class<?> inside : CoatRows.class.getDeclaredClasses()) {
            library(inside);
        }
    }

    /** A compiled class names all that it calls in its constants: methods are pairs of a class and a name. */
    private static void library(Class<?> type) throws IOException {
        try (DataInputStream in = new DataInputStream(CoatRows.class.getResourceAsStream(type.getName() + ".class"))) {
            in.skipNBytes(8);
            int many = in.readUnsignedShort();
            String[] texts = new String[many];
            int[][] parts = new int[many][];
            for (int i = 1; i < many; i++) {
                int tag = in.readUnsignedByte();
                switch (tag) {
                    case 1 -> texts[i] = in.readUTF();
                    case 3, 4 -> in.skipNBytes(4);
                    case 5, 6 -> {
                        in.skipNBytes(8);
                        i++;
                    }
                    case 7, 8, 16, 19, 20 -> parts[i] = new int[] {tag, in.readUnsignedShort()};
                    case 9, 10, 11, 12 -> parts[i] = new int[] {tag, in.readUnsignedShort(), in.readUnsignedShort()};
                    default -> throw new IOException("a call that is found only when it is made, in " + type);
                }
            }
            for (int[] part : parts) {
                if (part != null && (part[0] == 10 || part[0] == 11)) {
                    String called = texts[parts[part[1]][1]] + "." + texts[parts[part[2]][1]];
                    no("a call of " + called, !called.matches(CALLS));
                }
            }
        }
    }
}
