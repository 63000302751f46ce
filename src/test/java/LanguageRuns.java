import java.lang.reflect.Constructor;
import java.lang.reflect.Field;
import java.lang.reflect.Method;
import java.lang.reflect.Modifier;
import java.nio.file.Files;
import java.nio.file.Path;
import java.util.ArrayList;
import java.util.Arrays;
import java.util.HashMap;
import java.util.HashSet;
import java.util.List;
import java.util.Map;
import java.util.Set;
import java.util.TreeMap;
import java.util.TreeSet;
import java.util.regex.Matcher;
import java.util.regex.Pattern;

/** The public face of the document, and those rules of the language that can be seen in the class or in its text. */
public final class LanguageRuns {
    private static final String SOURCE = "src/main/java/SchemaEditor.java";
    private static final Set<String> FACE = Set.of(
        "boolean token(int, int)", "int model(int)", "int place()", "int simple(int, int, int)", "int listed(int, int)",
        "int attribute(int, int, int, int)", "int element(int, int)", "int insert(int, int, int)", "int remove(int)",
        "int move(int, int, int)", "int rename(int, int)", "int value(int, boolean, int)", "int set(int, int, boolean, int)",
        "int status(int)", "int check(int)", "int may(int, int)", "int fitting(int)", "int missing(int)", "int child(int, int)");
    private static final Map<String, Integer> CONSTANTS = Map.of(
        "OK", 0, "TYPELESS", 1, "CONTENT", 2, "VALUE", 3, "ATTRIBUTE", 4, "SYNTAX", 5, "LARGE", 6, "AMBIGUOUS", 7, "BAD", -1);
    private static final Set<Class<?>> PLAIN = Set.of(int.class, long.class, short.class, byte.class, char.class, boolean.class);
    private static final Set<String> PLAIN_NAMES = Set.of("int", "long", "short", "byte", "char", "boolean");
    private static final Set<String> NO_CALLS = Set.of("if", "for", "while", "switch", "return", "case", "else", "do");
    private static final Set<String> NO_WORDS = Set.of(
        "import", "package", "float", "double", "String", "Math", "Integer", "System", "Arrays", "Object", "null", "throw", "throws", "try",
        "catch", "finally", "synchronized", "assert", "instanceof", "enum", "interface", "protected", "super", "native", "extends",
        "implements", "@", "::");
    // The rules say "some sixty" lines and "some forty" fields.
    private static final int LINES = 66, FIELDS = 44, DEEP = 6;

    private static int wrong = 0;

    private record Token(String text, int line) {
    }

    /** A method or the constructor: its name, and where its body begins and ends among the tokens. */
    private record Body(String name, int begin, int end) {
    }

    public static void main(String[] args) throws Exception {
        face();
        fields();
        List<Token> tokens = tokens(Files.readString(Path.of(SOURCE)));
        words(tokens);
        List<Body> bodies = bodies(tokens);
        due("10: every method is found in the text", bodies.size() == SchemaEditor.class.getDeclaredMethods().length + 1);
        arrays(tokens, bodies);
        calls(tokens, bodies);
        System.out.println(wrong == 0 ? "all rules are kept" : wrong + " rules are not kept");
        if (wrong != 0) {
            System.exit(1);
        }
    }

    private static void due(String rule, boolean kept) {
        if (!kept) {
            wrong++;
            System.out.println("not kept: " + rule);
        }
    }

    // ---- What the class itself tells

    private static void face() {
        Class<?> c = SchemaEditor.class;
        due("1: public and final", Modifier.isPublic(c.getModifiers()) && Modifier.isFinal(c.getModifiers()));
        due("1: no nested class", c.getDeclaredClasses().length == 0 && c.getSuperclass() == Object.class);
        due("1: no package", c.getPackageName().isEmpty());
        Constructor<?>[] constructors = c.getDeclaredConstructors();
        due("1: one public constructor", constructors.length == 1 && Modifier.isPublic(constructors[0].getModifiers())
            && constructors[0].getParameterCount() == 0);
        Set<String> open = new TreeSet<>();
        Set<String> openNames = new HashSet<>();
        List<String> hidden = new ArrayList<>();
        for (Method m : c.getDeclaredMethods()) {
            String parameters = String.join(", ", Arrays.stream(m.getParameterTypes()).map(Class::getName).toList());
            if (Modifier.isPrivate(m.getModifiers())) {
                hidden.add(m.getName());
            } else {
                open.add(m.getReturnType().getName() + " " + m.getName() + "(" + parameters + ")");
                openNames.add(m.getName());
                due("1: " + m.getName() + " is public and no static one", Modifier.isPublic(m.getModifiers()) && !Modifier.isStatic(m.getModifiers()));
            }
            due("10: parameters of " + m.getName(), m.getParameterCount() <= 7);
            due("2, 4: answer of " + m.getName(), PLAIN.contains(m.getReturnType()) || m.getReturnType() == void.class);
        }
        due("1: the methods of the document, not " + open, open.equals(FACE));
        due("1: no private method bears a public name", hidden.stream().noneMatch(openNames::contains));
    }

    private static void fields() throws Exception {
        Map<String, Integer> constants = new TreeMap<>();
        int held = 0;
        for (Field f : SchemaEditor.class.getDeclaredFields()) {
            boolean isStatic = Modifier.isStatic(f.getModifiers());
            Class<?> type = f.getType();
            if (Modifier.isPrivate(f.getModifiers())) {
                due("2: type of " + f.getName(), PLAIN.contains(type) || type.isArray() && PLAIN.contains(type.getComponentType()));
            } else {
                due("1: " + f.getName() + " is a public constant", isStatic && Modifier.isPublic(f.getModifiers()));
                constants.put(f.getName(), f.getInt(null));
            }
            if (isStatic) {
                due("5: " + f.getName(), Modifier.isFinal(f.getModifiers()) && (type == int.class || type == long.class));
            } else {
                held++;
            }
        }
        due("1: the constants of the document, not " + constants, constants.equals(CONSTANTS));
        due("10: at most some forty fields, not " + held, held <= FIELDS);
    }

    // ---- What the text tells

    private static List<Token> tokens(String source) {
        Pattern sign = Pattern.compile("(?s)/\\*.*?\\*/|//[^\n]*|\"[^\"]*\"|'(?:\\\\.|[^'\\\\])+'|[A-Za-z_$][\\w$]*|\\d\\w*|->|::|[=!<>]=|\\S|\n");
        List<Token> found = new ArrayList<>();
        int line = 1;
        Matcher m = sign.matcher(source);
        while (m.find()) {
            String text = m.group();
            if (!text.startsWith("/*") && !text.startsWith("//") && !text.equals("\n")) {
                found.add(new Token(text, line));
            }
            line += (int) text.chars().filter(c -> c == '\n').count();
        }
        return found;
    }

    private static String at(List<Token> tokens, int i) {
        return i >= 0 && i < tokens.size() ? tokens.get(i).text : "";
    }

    private static boolean isName(String text) {
        return text.matches("[A-Za-z_$][\\w$]*");
    }

    private static void words(List<Token> tokens) {
        int classes = 0;
        for (int i = 0; i < tokens.size(); i++) {
            String text = at(tokens, i);
            String where = " in line " + tokens.get(i).line;
            due("no " + text + where, !NO_WORDS.contains(text) && !text.startsWith("\""));
            classes += text.equals("class") ? 1 : 0;
            if (text.equals("->")) {
                due("6: no lambda" + where, isOfCase(tokens, i));
            }
            if (text.equals(".")) {
                boolean own = Set.of("this", "SchemaEditor").contains(at(tokens, i - 1));
                due("3: nothing of another class" + where, own || at(tokens, i + 1).equals("length"));
            }
            due("2: arrays of one dimension" + where, !text.equals("]") || !at(tokens, i - 1).equals("[") || !at(tokens, i + 1).equals("["));
        }
        due("1: one class", classes == 1);
    }

    private static boolean isOfCase(List<Token> tokens, int arrow) {
        int i = arrow - 1;
        while (i > 0 && !Set.of(";", "{", "}", "(", ")", "case", "default").contains(at(tokens, i))) {
            i--;
        }
        return Set.of("case", "default").contains(at(tokens, i));
    }

    private static int closing(List<Token> tokens, int opening) {
        String open = at(tokens, opening);
        String close = open.equals("(") ? ")" : "}";
        int depth = 0;
        int i = opening;
        do {
            depth += at(tokens, i).equals(open) ? 1 : at(tokens, i).equals(close) ? -1 : 0;
            i++;
        } while (depth > 0 && i < tokens.size());
        return i - 1;
    }

    private static List<Body> bodies(List<Token> tokens) {
        List<Body> found = new ArrayList<>();
        int i = 0;
        while (i < tokens.size() && !at(tokens, i).equals("{")) {
            i++;
        }
        int opened = 0;
        for (i++; i < tokens.size(); i++) {
            if (at(tokens, i).equals("(")) {
                opened = i;
            } else if (at(tokens, i).equals("{")) {
                int end = closing(tokens, i);
                boolean isMethod = at(tokens, i - 1).equals(")");
                due("4, 5: no block outside a method, line " + tokens.get(i).line, isMethod);
                if (isMethod) {
                    found.add(new Body(at(tokens, opened - 1), i, end));
                    due("10: " + at(tokens, opened - 1) + " is short", tokens.get(end).line - tokens.get(i).line <= LINES);
                }
                i = end;
            }
        }
        return found;
    }

    private static void arrays(List<Token> tokens, List<Body> bodies) {
        Set<String> held = new HashSet<>();
        Set<String> constants = new HashSet<>();
        for (Field f : SchemaEditor.class.getDeclaredFields()) {
            if (f.getType().isArray()) {
                held.add(f.getName());
            } else if (Modifier.isStatic(f.getModifiers())) {
                constants.add(f.getName());
            }
        }
        for (int i = 0; i < tokens.size(); i++) {
            if (at(tokens, i).equals("new")) {
                String where = " in line " + tokens.get(i).line;
                due("4: only arrays are made" + where, PLAIN_NAMES.contains(at(tokens, i + 1)) && at(tokens, i + 2).equals("["));
                int end = i + 3;
                while (end < tokens.size() && !at(tokens, end).equals("]")) {
                    String part = at(tokens, end);
                    due("4: a length that is a constant" + where, !isName(part) || constants.contains(part));
                    end++;
                }
                due("4: a length" + where, end > i + 3 && !Set.of("[", "{").contains(at(tokens, end + 1)));
                due("4: made once, at the start" + where, isMadeAtStart(tokens, bodies, i));
            }
        }
        for (Body body : bodies) {
            for (int i = body.begin; i < body.end && !body.name.equals("SchemaEditor"); i++) {
                boolean assigned = held.contains(at(tokens, i)) && at(tokens, i + 1).equals("=");
                due("4: no array field is assigned, line " + tokens.get(i).line, !assigned);
            }
        }
    }

    /** In a field's initialiser, or in the constructor's own block. */
    private static boolean isMadeAtStart(List<Token> tokens, List<Body> bodies, int i) {
        for (Body body : bodies) {
            if (i > body.begin && i < body.end) {
                long deeper = tokens.subList(body.begin, i).stream().filter(t -> t.text.equals("{")).count();
                long closed = tokens.subList(body.begin, i).stream().filter(t -> t.text.equals("}")).count();
                return body.name.equals("SchemaEditor") && deeper - closed == 1;
            }
        }
        return true;
    }

    private static void calls(List<Token> tokens, List<Body> bodies) {
        Map<String, Set<String>> called = new HashMap<>();
        bodies.forEach(body -> called.put(body.name, new HashSet<>()));
        for (Body body : bodies) {
            for (int i = body.begin; i < body.end; i++) {
                if (!isCall(tokens, i)) {
                    continue;
                }
                String where = " in line " + tokens.get(i).line;
                due("3: only methods of the class are called" + where, called.containsKey(at(tokens, i)));
                called.get(body.name).add(at(tokens, i));
                for (int inside = i + 2; inside < closing(tokens, i + 1); inside++) {
                    due("10: no call inside the arguments of another" + where, !isCall(tokens, inside));
                }
            }
        }
        for (String name : called.keySet()) {
            int depth = depth(name, called, 0);
            due("8: no recursion in " + name, depth < 100);
            due("10: calls from " + name + " go " + depth + " deep", depth <= DEEP);
        }
    }

    private static boolean isCall(List<Token> tokens, int i) {
        return isName(at(tokens, i)) && !NO_CALLS.contains(at(tokens, i)) && at(tokens, i + 1).equals("(");
    }

    /** How many calls stand on each other below this method; a recursion shows as a hundred or more. */
    private static int depth(String name, Map<String, Set<String>> called, int above) {
        int most = 0;
        for (String next : above > 100 ? Set.<String>of() : called.getOrDefault(name, Set.of())) {
            most = Math.max(most, 1 + depth(next, called, above + 1));
        }
        return most;
    }
}
