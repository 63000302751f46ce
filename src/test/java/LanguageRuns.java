import java.lang.reflect.Constructor;
import java.lang.reflect.Field;
import java.lang.reflect.Method;
import java.lang.reflect.Modifier;
import java.nio.file.Files;
import java.nio.file.Path;
import java.util.ArrayList;
import java.util.Arrays;
import java.util.HashMap;
import java.util.HashSet;
import java.util.List;
import java.util.Map;
import java.util.Set;
import java.util.TreeMap;
import java.util.TreeSet;
import java.util.regex.Matcher;
import java.util.regex.Pattern;

/** The public face of the document, and those rules of the language that can be seen in the class or in its text. */
public final class LanguageRuns {
    private static final String SOURCE = "src/main/java/SchemaEditor.java";
    private static final Set<String> FACE = Set.of(
        "boolean token(int, int)", "int model(int)", "int place()", "int simple(int, int, int)", "int listed(int, int)",
        "int attribute(int, int, int, int)", "int element(int, int)", "int insert(int, int, int)", "int remove(int)",
        "int move(int, int, int)", "int rename(int, int)", "int value(int, boolean, int)", "int set(int, int, boolean, int)",
        "int status(int)", "int check(int)", "int may(int, int)", "int fitting(int)", "int missing(int)", "int child(int, int)");
    private static final Map<String, Integer> CONSTANTS = Map.of(
        "OK", 0, "TYPELESS", 1, "CONTENT", 2, "VALUE", 3, "ATTRIBUTE", 4, "SYNTAX", 5, "LARGE", 6, "AMBIGUOUS", 7, "BAD", -1);
    private static final Set<Class<?>> PLAIN = Set.of(int.class, long.class, short.class, byte.class, char.class, boolean.class);

    private static int wrong = 0;

    public static void main(String[] args) throws Exception {
        face();
        fields();
        String text = withoutComments(Files.readString(Path.of(SOURCE)));
        words(text);
        Map<String, String> bodies = bodies(text);
        due("10: every method is found in the text", bodies.size() == SchemaEditor.class.getDeclaredMethods().length);
        calls(bodies);
        System.out.println(wrong == 0 ? "all rules are kept" : wrong + " rules are not kept");
        if (wrong != 0) {
            System.exit(1);
        }
    }

    private static void due(String rule, boolean kept) {
        if (!kept) {
            wrong++;
            System.out.println("not kept: " + rule);
        }
    }

    private static void face() throws Exception {
        Class<?> c = SchemaEditor.class;
        due("1: public and final", Modifier.isPublic(c.getModifiers()) && Modifier.isFinal(c.getModifiers()));
        due("1: no nested class", c.getDeclaredClasses().length == 0 && c.getSuperclass() == Object.class);
        due("1: no package", c.getPackageName().isEmpty());
        Constructor<?>[] constructors = c.getDeclaredConstructors();
        due("1: one public constructor", constructors.length == 1 && Modifier.isPublic(constructors[0].getModifiers())
            && constructors[0].getParameterCount() == 0);
        Set<String> open = new TreeSet<>();
        Set<String> openNames = new HashSet<>();
        List<String> hidden = new ArrayList<>();
        for (Method m : c.getDeclaredMethods()) {
            String parameters = String.join(", ", Arrays.stream(m.getParameterTypes()).map(Class::getName).toList());
            if (Modifier.isPrivate(m.getModifiers())) {
                hidden.add(m.getName());
            } else {
                open.add(m.getReturnType().getName() + " " + m.getName() + "(" + parameters + ")");
                openNames.add(m.getName());
                due("1: " + m.getName() + " is public and no static one", m.getModifiers() == Modifier.PUBLIC);
            }
            due("10: parameters of " + m.getName(), m.getParameterCount() <= 7);
            due("2: answer of " + m.getName(), PLAIN.contains(m.getReturnType()) || m.getReturnType() == void.class);
        }
        due("1: the methods of the document, not " + open, open.equals(FACE));
        due("1: no private method bears a public name", hidden.stream().noneMatch(openNames::contains));
    }

    private static void fields() throws Exception {
        Map<String, Integer> constants = new TreeMap<>();
        int held = 0;
        for (Field f : SchemaEditor.class.getDeclaredFields()) {
            boolean isStatic = Modifier.isStatic(f.getModifiers());
            Class<?> type = f.getType();
            if (Modifier.isPrivate(f.getModifiers())) {
                due("2: type of " + f.getName(), PLAIN.contains(type) || type.isArray() && PLAIN.contains(type.getComponentType()));
            } else {
                due("1: " + f.getName() + " is a public constant", isStatic && Modifier.isPublic(f.getModifiers()));
                constants.put(f.getName(), f.getInt(null));
            }
            if (isStatic) {
                due("5: " + f.getName(), Modifier.isFinal(f.getModifiers()) && (type == int.class || type == long.class));
            } else {
                held++;
                due("4: " + f.getName() + " is never assigned again", !type.isArray() || Modifier.isFinal(f.getModifiers()));
            }
        }
        due("1: the constants of the document, not " + constants, constants.equals(CONSTANTS));
        due("10: at most some forty fields, not " + held, held <= 40);
    }

    private static String withoutComments(String text) {
        return text.replaceAll("(?s)/\\*.*?\\*/", "").replaceAll("//[^\n]*", "");
    }

    private static void words(String text) {
        String[] none = {
            "import", "package", "float", "double", "String", "Math", "Integer", "System", "Arrays", "Object", "null", "throw", "try",
            "catch", "synchronized", "assert", "instanceof", "enum", "record", "interface", "protected", "this", "super", "var",
        };
        for (String word : none) {
            due("no " + word, !Pattern.compile("\\b" + word + "\\b").matcher(text).find());
        }
        for (String sign : new String[] {"\"", "'", "->", "::", "[][]", "@"}) {
            due("no " + sign, !text.contains(sign));
        }
        due("1: one class", text.split("\\bclass\\b").length == 2);
        Pattern field = Pattern.compile("    private final (int|boolean)\\[\\] \\w+ = new \\1\\[[A-Z_]+\\];");
        for (String line : text.split("\n")) {
            due("4: array made in a field's initialiser: " + line, !line.contains("new ") || field.matcher(line).matches());
        }
    }

    /** The text of each method's body, by its name. */
    private static Map<String, String> bodies(String text) {
        Map<String, String> found = new HashMap<>();
        Matcher m = Pattern.compile("(?m)^    (?:public|private)(?: static)? \\w+ (\\w+)\\([^)]*\\) \\{\n(.*?)^    \\}$", Pattern.MULTILINE | Pattern.DOTALL).matcher(text);
        while (m.find()) {
            due("10: " + m.group(1) + " has one body", found.put(m.group(1), m.group(2)) == null);
            due("10: " + m.group(1) + " is short", m.group(2).split("\n").length <= 60);
        }
        return found;
    }

    private static void calls(Map<String, String> bodies) {
        Map<String, Set<String>> called = new HashMap<>();
        for (Map.Entry<String, String> body : bodies.entrySet()) {
            Set<String> names = new HashSet<>();
            Matcher m = Pattern.compile("\\b(\\w+)\\(").matcher(body.getValue());
            while (m.find()) {
                String name = m.group(1);
                if (bodies.containsKey(name)) {
                    names.add(name);
                    String inside = arguments(body.getValue(), m.end());
                    due("10: no call inside the arguments of " + name + " in " + body.getKey(), !inside.matches("(?s).*\\w\\(.*"));
                } else {
                    due("3: " + body.getKey() + " calls only methods of the class, not " + name, false);
                }
            }
            called.put(body.getKey(), names);
        }
        for (String name : bodies.keySet()) {
            int depth = depth(name, called, 0);
            due("8, 10: calls from " + name + " go " + depth + " deep", depth <= 6);
        }
    }

    private static String arguments(String text, int begin) {
        int open = 1;
        int end = begin;
        while (open > 0) {
            open += text.charAt(end) == '(' ? 1 : text.charAt(end) == ')' ? -1 : 0;
            end++;
        }
        return text.substring(begin, end - 1);
    }

    /** A recursion shows as a depth of more than a hundred. */
    private static int depth(String name, Map<String, Set<String>> called, int above) {
        int most = 0;
        for (String next : above > 100 ? Set.<String>of() : called.get(name)) {
            most = Math.max(most, depth(next, called, above + 1));
        }
        return 1 + most;
    }
}
