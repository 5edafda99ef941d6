import java.io.IOException;
import java.lang.reflect.Method;
import java.nio.file.Files;
import java.nio.file.Path;
import java.util.regex.Matcher;
import java.util.regex.Pattern;

/** The example in README.md: each call there answers what is written behind it. */
public final class ReadmeTest {
    private static final Pattern TYPED = Pattern.compile("for \\(char b : \"([^\"]*)\"\\.toCharArray\\(\\)\\) x\\.type\\((\\d), b\\); +// .+");
    private static final Pattern CALL = Pattern.compile("x\\.([a-z]+)\\(([-0-9, ]*)\\); +// (-?\\d+): .+");

    public static void main(String[] args) throws IOException, ReflectiveOperationException {
        String readme = Files.readString(Path.of(args.length > 0 ? args[0] : ".", "README.md"));
        int from = readme.indexOf("```java\n");
        int to = readme.indexOf("```", from + 8);
        Due.is("README.md has an example", from >= 0 && to >= 0 ? 1 : 0, 1);
        if (from >= 0 && to >= 0) {
            example(readme.substring(from + 8, to).split("\n"));
        }
        for (String word : new String[] {"512 calls", "`NONE`", "`BAD`", "`NOT`", "`FULL`", "-11 to -15", ".ci/run", "all tests pass"}) {
            Due.is("README.md tells of " + word, readme.contains(word) ? 1 : 0, 1);
        }
        Due.end();
    }

    /** A line that is neither the object's making, nor a text, nor a call with its answer is a fault of the example. */
    private static void example(String[] lines) throws ReflectiveOperationException {
        Due.is(lines[0], lines[0].equals("SharedPockets x = new SharedPockets();") ? 1 : 0, 1);
        SharedPockets x = new SharedPockets();
        for (int k = 1; k < lines.length; k++) {
            Matcher typed = TYPED.matcher(lines[k]);
            Matcher call = CALL.matcher(lines[k]);
            if (typed.matches()) {
                Due.type(x, Integer.parseInt(typed.group(2)), typed.group(1));
            } else if (call.matches()) {
                Due.is("README.md: " + lines[k], answer(x, call.group(1), call.group(2)), Long.parseLong(call.group(3)));
            } else {
                Due.is("README.md: no answer stands behind " + lines[k], 1, 0);
            }
        }
    }

    private static long answer(SharedPockets x, String name, String numbers) throws ReflectiveOperationException {
        String[] given = numbers.isBlank() ? new String[0] : numbers.split(", *");
        Class<?>[] types = new Class<?>[given.length];
        Object[] values = new Object[given.length];
        for (int k = 0; k < given.length; k++) {
            types[k] = int.class;
            values[k] = Integer.parseInt(given[k].trim());
        }
        Method method = SharedPockets.class.getMethod(name, types);
        return ((Number) method.invoke(x, values)).longValue();
    }
}
