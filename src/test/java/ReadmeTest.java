import java.lang.reflect.Method;
import java.lang.reflect.Modifier;
import java.nio.file.Files;
import java.nio.file.Path;

/** The example of README.md: its calls, with the answers that it tells. */
public final class ReadmeTest {
    private static String text;
    private static int from;
    private static int calls = 0;

    public static void main(String[] args) throws Exception {
        text = Files.readString(Path.of("README.md"));
        from = text.indexOf("```java");
        example();
        everyCallIsTold();
        Answers.end();
    }

    private static void example() {
        RateLimits limits = new RateLimits();
        told("limits.set(1, 1, 2 | 12 << 3 | 3 << 8);", limits.set(1, 1, 2 | 12 << 3 | 3 << 8));
        told("limits.ask(1, 7);", limits.ask(1, 7));
        told("limits.ask(1, 7);", limits.ask(1, 7));
        told("limits.room(1);", limits.room(1));
        told("limits.waitFor(1, 7);", limits.waitFor(1, 7));
        told("limits.pass(3);", limits.pass(3));
        told("limits.askAll(0b11, 4);", limits.askAll(0b11, 4));
        told("limits.granted(1);", limits.granted(1));
        told("limits.denied(1);", limits.denied(1));
        told("limits.time();", limits.time());
        told("limits.ask(4, 1);", limits.ask(4, 1));
        Answers.due("calls in the example", text.split("\nlimits\\.", -1).length - 1, calls);
    }

    /** The next call of the example is this one, with this answer. */
    private static void told(String call, int answer) {
        calls++;
        int start = text.indexOf("\nlimits.", from) + 1;
        from = Math.max(start, text.indexOf('\n', start));
        String line = text.substring(start, from).replaceAll(" +// ", " // ");
        Answers.same("call " + calls, line.replaceAll("(// -?\\d+):.*", "$1"), call + " // " + answer);
    }

    private static void everyCallIsTold() {
        for (Method method : RateLimits.class.getDeclaredMethods()) {
            if (Modifier.isPublic(method.getModifiers())) {
                Answers.due("README.md tells of " + method.getName(),
                    text.contains("| `" + method.getName() + "(") ? 1 : 0, 1);
            }
        }
    }
}
