import java.lang.reflect.Constructor;
import java.lang.reflect.Field;
import java.lang.reflect.Method;
import java.lang.reflect.Modifier;
import java.nio.file.Files;
import java.nio.file.Path;
import java.util.Arrays;
import java.util.TreeSet;
import java.util.regex.Matcher;
import java.util.regex.Pattern;

/** The public face, and those rules of LANGUAGE.md that a program can look for. */
public final class LanguageTest {
    private static final String FACE = "ask(int,int) askAll(int,int) denied(int) granted(int) "
        + "pass(int) room(int) set(int,int,int) time() waitFor(int,int)";
    private static final String CONSTANTS = "BAD_KIND BAD_METER BAD_NUMBER FULL";

    public static void main(String[] args) throws Exception {
        members();
        source();
        Answers.end();
    }

    private static void members() {
        Class<?> c = RateLimits.class;
        Answers.due("public and final",
            c.getModifiers() & (Modifier.PUBLIC | Modifier.FINAL), Modifier.PUBLIC | Modifier.FINAL);
        Answers.due("nested classes", c.getDeclaredClasses().length, 0);
        Constructor<?>[] makers = c.getDeclaredConstructors();
        Answers.due("constructors", makers.length, 1);
        Answers.due("its parameters", makers[0].getParameterCount(), 0);
        TreeSet<String> face = new TreeSet<>();
        TreeSet<String> names = new TreeSet<>();
        TreeSet<String> hidden = new TreeSet<>();
        for (Method method : c.getDeclaredMethods()) {
            Answers.due(method + " parameters of at most 7",
                method.getParameterCount() <= 7 ? 1 : 0, 1);
            if (Modifier.isPrivate(method.getModifiers())) {
                hidden.add(method.getName());
            } else {
                names.add(method.getName());
                face.add(method.getName() + Arrays.toString(method.getParameterTypes())
                    .replace(" ", "").replace('[', '(').replace(']', ')'));
                Answers.same(method + " answers", method.getReturnType().getName(), "int");
            }
        }
        Answers.same("public methods", String.join(" ", face), FACE);
        hidden.retainAll(names);
        Answers.same("private methods with a public name", hidden.toString(), "[]");
        fields(c);
    }

    private static void fields(Class<?> c) {
        TreeSet<String> constants = new TreeSet<>();
        int others = 0;
        for (Field field : c.getDeclaredFields()) {
            boolean isStatic = Modifier.isStatic(field.getModifiers());
            if (!Modifier.isPrivate(field.getModifiers())) {
                constants.add(field.getName());
            }
            if (isStatic) {
                Answers.same(field + " type", field.getType().getName(), "int");
            } else {
                others++;
            }
        }
        Answers.same("constants", String.join(" ", constants), CONSTANTS);
        Answers.due("at most 40 fields", others <= 40 ? 1 : 0, 1);
    }

    private static void source() throws Exception {
        String text = Files.readString(Path.of("src/main/java/RateLimits.java"))
            .replaceAll("//[^\n]*", "");
        absent(text, "\\b(package|import|float|double|String|Object|Math|Integer|Long|System|Arrays"
            + "|null|throw|throws|try|catch|synchronized|assert|instanceof|class\\s+(?!RateLimits)\\w+"
            + "|interface|enum|record|protected|hashCode|equals|toString|getClass)\\b");
        absent(text, "->|::|\"|\\[\\]\\[\\]");
        // A call inside another's arguments; the words of the language that
        // take brackets (if, for, while) are written with a space before them.
        absent(text, "\\w\\([^()]*\\w\\(");
        Matcher made = Pattern.compile("[^\n]*\\bnew\\b[^\n]*").matcher(text);
        Pattern initialiser = Pattern.compile(
            "    private final int\\[\\] \\w+ = new int\\[[A-Z_]+\\];");
        while (made.find()) {
            Answers.due("made in a field's initialiser: " + made.group(),
                initialiser.matcher(made.group()).matches() ? 1 : 0, 1);
        }
    }

    private static void absent(String text, String pattern) {
        Matcher found = Pattern.compile(pattern).matcher(text);
        Answers.same("outside the language", found.find() ? found.group() : "", "");
    }
}
