import java.lang.reflect.Constructor;
import java.lang.reflect.Field;
import java.lang.reflect.Method;
import java.lang.reflect.Modifier;
import java.nio.file.Files;
import java.nio.file.Path;
import java.util.Arrays;
import java.util.Map;
import java.util.TreeMap;
import java.util.TreeSet;
import java.util.regex.Matcher;
import java.util.regex.Pattern;

/** The public face, and those rules of LANGUAGE.md that a program can look for. */
public final class LanguageTest {
    private static final String FACE = "ask(int,int) askAll(int,int) denied(int) granted(int) "
        + "pass(int) room(int) set(int,int,int) time() waitFor(int,int)";
    private static final String CONSTANTS = "BAD_KIND=-2 BAD_METER=-1 BAD_NUMBER=-3 FULL=-4";
    private static final int MOST_LINES = 60;
    private static final int DEEPEST = 6;

    public static void main(String[] args) throws Exception {
        members();
        String text = Files.readString(Path.of("src/main/java/RateLimits.java"))
            .replaceAll("//[^\n]*", "");
        source(text);
        methods(text);
        Answers.end();
    }

    private static void members() throws Exception {
        Class<?> c = RateLimits.class;
        Answers.due("public and final",
            c.getModifiers() & (Modifier.PUBLIC | Modifier.FINAL), Modifier.PUBLIC | Modifier.FINAL);
        Answers.due("nested classes", c.getDeclaredClasses().length, 0);
        Constructor<?>[] makers = c.getDeclaredConstructors();
        Answers.due("constructors", makers.length, 1);
        Answers.same("the constructor", makers[0].toString(), "public RateLimits()");
        TreeSet<String> face = new TreeSet<>();
        TreeSet<String> names = new TreeSet<>();
        TreeSet<String> hidden = new TreeSet<>();
        for (Method method : c.getDeclaredMethods()) {
            Answers.due(method + " parameters of at most 7",
                method.getParameterCount() <= 7 ? 1 : 0, 1);
            for (Class<?> type : method.getParameterTypes()) {
                wholeNumbers(method + " takes", type);
            }
            if (Modifier.isPrivate(method.getModifiers())) {
                hidden.add(method.getName());
            } else {
                names.add(method.getName());
                face.add(method.getName() + Arrays.toString(method.getParameterTypes())
                    .replace(" ", "").replace('[', '(').replace(']', ')'));
                Answers.same(method + " answers", method.getReturnType().getName(), "int");
                Answers.same(method + " is", Modifier.toString(method.getModifiers()), "public");
            }
        }
        Answers.same("public methods", String.join(" ", face), FACE);
        hidden.retainAll(names);
        Answers.same("private methods with a public name", hidden.toString(), "[]");
        fields(c);
    }

    private static void fields(Class<?> c) throws Exception {
        TreeSet<String> constants = new TreeSet<>();
        int others = 0;
        for (Field field : c.getDeclaredFields()) {
            if (!Modifier.isPrivate(field.getModifiers())) {
                constants.add(field.getName() + "=" + field.getInt(null));
                Answers.same(field + " is", Modifier.toString(field.getModifiers()),
                    "public static final");
            }
            if (Modifier.isStatic(field.getModifiers())) {
                Answers.same(field + " type", field.getType().getName(), "int");
                Answers.due(field + " is final", Modifier.isFinal(field.getModifiers()) ? 1 : 0, 1);
            } else {
                wholeNumbers(field + " is of", field.getType());
                others++;
            }
        }
        Answers.same("constants", String.join(" ", constants), CONSTANTS);
        Answers.due("at most 40 fields", others <= 40 ? 1 : 0, 1);
    }

    private static void wholeNumbers(String what, Class<?> type) {
        Class<?> one = type.isArray() ? type.getComponentType() : type;
        boolean is = one.isPrimitive() && one != float.class && one != double.class;
        Answers.due(what + " whole numbers: " + type.getName(), is ? 1 : 0, 1);
    }

    private static void source(String text) {
        absent(text, "\\b(package|import|float|double|String|Object|Math|Integer|Long|System|Arrays"
            + "|null|throw|throws|try|catch|synchronized|assert|instanceof|class\\s+(?!RateLimits)\\w+"
            + "|interface|enum|record|protected|hashCode|equals|toString|getClass)\\b");
        absent(text, "->|::|\"|\\[\\]\\[\\]|static\\s*\\{");
        // A call inside another's arguments; the words of the language that
        // take brackets (if, for, while) are written with a space before them.
        absent(text, "\\w\\([^()]*\\w\\(");
        Matcher made = Pattern.compile("[^\n]*\\bnew\\b[^\n]*").matcher(text);
        Pattern initialiser = Pattern.compile(
            "    private final int\\[\\] \\w+ = new int\\[[A-Z_]+\\];");
        while (made.find()) {
            Answers.due("made in a field's initialiser: " + made.group(),
                initialiser.matcher(made.group()).matches() ? 1 : 0, 1);
        }
    }

    /** Every method is short and none reaches itself; each has a name of its own here. */
    private static void methods(String text) {
        Map<String, String> bodies = new TreeMap<>();
        Matcher method = Pattern.compile("(?s)\n    (?:public|private)[\\w ]* (\\w+)\\([^)]*\\) \\{(.*?)\n    }")
            .matcher(text);
        int count = 0;
        while (method.find()) {
            count++;
            bodies.put(method.group(1), method.group(2));
            Answers.due(method.group(1) + " is short",
                method.group().lines().count() <= MOST_LINES ? 1 : 0, 1);
        }
        Answers.due("names of methods", bodies.size(), count);
        Answers.due("methods found", count, RateLimits.class.getDeclaredMethods().length + 1);
        for (String name : bodies.keySet()) {
            int depth = depth(bodies, name, 1);
            Answers.due("calls from " + name + " go " + depth + " deep, at most " + DEEPEST,
                depth <= DEEPEST ? 1 : 0, 1);
        }
    }

    /** A method that reaches itself has no depth: it is followed no further than one too deep. */
    private static int depth(Map<String, String> bodies, String name, int above) {
        int deepest = above;
        Matcher call = Pattern.compile("(\\w+)\\(").matcher(bodies.get(name));
        while (deepest <= DEEPEST && call.find()) {
            if (bodies.containsKey(call.group(1))) {
                deepest = Math.max(deepest, depth(bodies, call.group(1), above + 1));
            }
        }
        return deepest;
    }

    private static void absent(String text, String pattern) {
        Matcher found = Pattern.compile(pattern).matcher(text);
        Answers.same("outside the language", found.find() ? found.group() : "", "");
    }
}
