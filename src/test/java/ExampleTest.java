import java.io.IOException;
import java.lang.reflect.InvocationTargetException;
import java.lang.reflect.Method;
import java.lang.reflect.Modifier;
import java.nio.file.Files;
import java.nio.file.Path;
import java.util.Set;
import java.util.TreeSet;
import java.util.regex.Matcher;
import java.util.regex.Pattern;

/** Runs the example of README.md as it stands there: each call must answer the number of its comment. */
public final class ExampleTest {
    private static final Pattern MADE = Pattern.compile("ChangeHouse x = new ChangeHouse\\(\\);");
    private static final Pattern TOLD = Pattern.compile("tell\\(x, \"(.*)\"\\);");
    private static final Pattern CALLED = Pattern.compile("x\\.(\\w+)\\(([-0-9, ]*)\\); +// (-?\\d+)\\b.*");

    public static void main(String[] args) throws IOException, IllegalAccessException, InvocationTargetException {
        String readme = Files.readString(Path.of("README.md"));
        String own = Files.readString(Path.of("src/test/java/ExampleTest.java"));
        String helper = block(readme, 0);
        House.due("tell() is the one of README.md", own.contains(helper.replaceAll("(?m)^(?=.)", "    ")) ? 1 : 0, 1);
        Set<String> called = run(block(readme, 1));
        called.add("feed");
        called.add("end");
        for (Method method : ChangeHouse.class.getDeclaredMethods()) {
            if (Modifier.isPublic(method.getModifiers())) {
                House.due("the example calls " + method.getName(), called.contains(method.getName()) ? 1 : 0, 1);
                House.due("the table has " + method.getName(), readme.contains("| `" + method.getName() + "(") ? 1 : 0, 1);
            }
        }
        House.end();
    }

    // As README.md has it.
    static void tell(ChangeHouse x, String text) {
        for (int i = 0; i < text.length(); i += 20) {
            int[] fours = new int[5];
            for (int j = 0; j < 20 && i + j < text.length(); j++) {
                fours[j / 4] |= (text.charAt(i + j) & 255) << 24 - 8 * (j % 4);
            }
            x.feed(fours[0], fours[1], fours[2], fours[3], fours[4]);
        }
        x.end(text.length());
    }

    /** The n-th block of Java in a text, without its fences. */
    private static String block(String text, int n) {
        String[] parts = text.split("(?m)^```java\n");
        if (parts.length < n + 2) {
            throw new IllegalStateException("README.md has no block " + n);
        }
        return parts[n + 1].substring(0, parts[n + 1].indexOf("```"));
    }

    /** The names of the calls that an example makes. */
    private static Set<String> run(String example) throws IllegalAccessException, InvocationTargetException {
        Set<String> names = new TreeSet<>();
        ChangeHouse x = null;
        for (String line : example.split("\n")) {
            Matcher told = TOLD.matcher(line);
            Matcher call = CALLED.matcher(line);
            if (MADE.matcher(line).matches()) {
                x = new ChangeHouse();
            } else if (told.matches()) {
                tell(x, told.group(1));
            } else if (call.matches()) {
                names.add(call.group(1));
                House.due(line, answer(x, call.group(1), call.group(2)), Long.parseLong(call.group(3)));
            } else {
                House.due("a line that can't be run: " + line, 0, 1);
            }
        }
        return names;
    }

    private static long answer(ChangeHouse x, String name, String numbers)
            throws IllegalAccessException, InvocationTargetException {
        String[] parts = numbers.isEmpty() ? new String[0] : numbers.split(", ");
        Object[] given = new Object[parts.length];
        for (int i = 0; i < parts.length; i++) {
            given[i] = Integer.valueOf(parts[i]);
        }
        for (Method method : ChangeHouse.class.getDeclaredMethods()) {
            if (method.getName().equals(name) && method.getParameterCount() == given.length) {
                return ((Number) method.invoke(x, given)).longValue();
            }
        }
        throw new IllegalStateException("there is no call " + name);
    }
}
