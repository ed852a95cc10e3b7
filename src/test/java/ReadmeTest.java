import java.io.IOException;
import java.lang.reflect.Method;
import java.lang.reflect.Modifier;
import java.nio.file.Files;
import java.nio.file.Path;
import java.util.HashMap;
import java.util.Map;
import java.util.regex.Matcher;
import java.util.regex.Pattern;

/** README.md tells the truth: its example answers what its comments say, and its table has each call of the face. */
public final class ReadmeTest {
    private static final Pattern CALL =
        Pattern.compile("(?:int (\\w+) = )?shop\\.(\\w+)\\(([^)]*)\\);(?:\\s*// (-?\\d+):.*)?.*");
    private static int wrong = 0;

    public static void main(String[] args) throws IOException, ReflectiveOperationException {
        String text = Files.readString(Path.of("README.md"));
        int answers = example(text);
        fault(answers < 8, "the example tells only " + answers + " answers");
        table(text);
        System.out.println(wrong == 0 ? "the README holds" : wrong + " faults of the README");
        if (wrong != 0) {
            System.exit(1);
        }
    }

    private static void fault(boolean is, String what) {
        if (is) {
            wrong++;
            System.out.println(what);
        }
    }

    /** Makes the calls of the example, one line after the other: how many answers it tells. */
    private static int example(String text) throws ReflectiveOperationException {
        int from = text.indexOf("```java\n") + "```java\n".length();
        String[] lines = text.substring(from, text.indexOf("```", from)).split("\n");
        JobShop shop = new JobShop();
        Map<String, Integer> named = new HashMap<>();
        int answers = 0;
        for (String line : lines) {
            Matcher call = CALL.matcher(line.trim());
            if (!call.matches()) {
                fault(!line.isBlank() && !line.contains("new JobShop()"), "not understood: " + line);
                continue;
            }
            int got = ask(shop, call.group(2), numbers(call.group(3), named));
            if (call.group(1) != null) {
                named.put(call.group(1), got);
            }
            if (call.group(4) != null) {
                answers++;
                fault(got != Integer.parseInt(call.group(4)), "answered " + got + ": " + line);
            }
        }
        return answers;
    }

    private static Object[] numbers(String list, Map<String, Integer> named) {
        if (list.isBlank()) {
            return new Object[0];
        }
        String[] words = list.split(",\\s*");
        Object[] all = new Object[words.length];
        for (int k = 0; k < words.length; k++) {
            all[k] = named.containsKey(words[k]) ? named.get(words[k]) : (Object) Integer.valueOf(words[k]);
        }
        return all;
    }

    private static int ask(JobShop shop, String name, Object[] numbers) throws ReflectiveOperationException {
        Class<?>[] types = new Class<?>[numbers.length];
        java.util.Arrays.fill(types, int.class);
        return (int) JobShop.class.getMethod(name, types).invoke(shop, numbers);
    }

    private static void table(String text) {
        for (Method m : JobShop.class.getDeclaredMethods()) {
            if (Modifier.isPublic(m.getModifiers())) {
                Matcher row = Pattern.compile("(?m)^\\| `" + m.getName() + "\\(([^)]*)\\)` \\|").matcher(text);
                int told = !row.find() ? -1 : row.group(1).isEmpty() ? 0 : row.group(1).split(",").length;
                fault(told != m.getParameterCount(), "the table has no row of " + m);
            }
        }
    }
}
