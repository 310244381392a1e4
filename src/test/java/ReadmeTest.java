import java.io.IOException;
import java.lang.reflect.Method;
import java.lang.reflect.Modifier;
import java.nio.file.Files;
import java.nio.file.Path;
import java.util.HashMap;
import java.util.List;
import java.util.Map;
import java.util.Set;
import java.util.TreeSet;
import java.util.regex.Matcher;
import java.util.regex.Pattern;

/**
 * Every line of Java in README.md makes an object or a call whose answer stands behind it, and is
 * run as it stands there; every method must be shown. To be started in the project's directory.
 */
final class ReadmeTest {
    private static final Pattern MAKING =
            Pattern.compile("FourierMotzkin (\\w+) = new FourierMotzkin\\(\\);");
    private static final Pattern CALL =
            Pattern.compile("(\\w+)\\.(\\w+)\\(([-\\d, ]*)\\); +// (-?\\d+): (.+)");
    private static final Pattern BOUND = Pattern.compile("(.+?) <= (-?\\d+)(\\D.*)?");
    private static final Pattern SLOPE_ROW = Pattern.compile("\\| ([-+0-9xyz ]+) \\| (\\d+) \\|");
    private static final Pattern TERM = Pattern.compile("(-?)(\\d*)([xyz])");

    private static final Map<String, Method> METHODS = new HashMap<>();
    private static final Set<String> SHOWN = new TreeSet<>();

    public static void main(String[] args) throws IOException, ReflectiveOperationException {
        for (Method method : FourierMotzkin.class.getDeclaredMethods()) {
            if (Modifier.isPublic(method.getModifiers())) {
                METHODS.put(method.getName(), method);
            }
        }
        List<String> lines = Files.readAllLines(Path.of("README.md"));
        runBlocks(lines);
        Checks.sentence("README.md shows every method");
        Checks.due("what is shown", SHOWN.toString(), new TreeSet<>(METHODS.keySet()).toString());
        Checks.sentence("README.md shows some slopes");
        readSlopes(lines);
        Checks.finish();
    }

    private static void runBlocks(List<String> lines) throws ReflectiveOperationException {
        Map<String, FourierMotzkin> objects = new HashMap<>();
        boolean isJava = false;
        for (int i = 0; i < lines.size(); i++) {
            String line = lines.get(i);
            if (line.startsWith("```")) {
                isJava = line.equals("```java");
                objects.clear();
            } else if (isJava && !line.isEmpty()) {
                Checks.sentence("README.md, line " + (i + 1));
                run(line, objects);
            }
        }
    }

    private static void run(String line, Map<String, FourierMotzkin> objects)
            throws ReflectiveOperationException {
        Matcher making = MAKING.matcher(line);
        Matcher call = CALL.matcher(line);
        if (making.matches()) {
            FourierMotzkin before = objects.put(making.group(1), new FourierMotzkin());
            Checks.due(line + " is new in its block", before == null ? 1 : 0, 1);
        } else if (call.matches() && objects.containsKey(call.group(1))
                && METHODS.containsKey(call.group(2))) {
            Object got = answer(objects.get(call.group(1)), call.group(2), call.group(3));
            Checks.due(line, got.toString(), call.group(4));
            SHOWN.add(call.group(2));
            if (call.group(2).equals("add") && !call.group(4).startsWith("-")) {
                Checks.due(line, call.group(3), bound(call.group(5)));
            }
        } else {
            Checks.due(line, "nothing that can be run", "a new object or a call with its answer");
        }
    }

    private static Object answer(FourierMotzkin object, String name, String arguments)
            throws ReflectiveOperationException {
        Method method = METHODS.get(name);
        String[] words = arguments.isEmpty() ? new String[0] : arguments.split(", ");
        if (words.length != method.getParameterCount()) {
            return "no call, as " + name + " takes " + method.getParameterCount() + " numbers";
        }
        Object[] numbers = new Object[words.length];
        for (int i = 0; i < words.length; i++) {
            numbers[i] = Integer.valueOf(words[i]);
        }
        return method.invoke(object, numbers);
    }

    /** The arguments of add for a bound that is told in words, such as 2x + 3z <= 4. */
    private static String bound(String words) {
        Matcher bound = BOUND.matcher(words);
        return bound.matches() ? slope(bound.group(1)) + ", " + bound.group(2) : "not told as a bound";
    }

    private static int slope(String leftSide) {
        Map<String, Integer> factors = new HashMap<>();
        Matcher term = TERM.matcher(leftSide.replace(" ", ""));
        while (term.find()) {
            int size = term.group(2).isEmpty() ? 1 : Integer.parseInt(term.group(2));
            factors.put(term.group(3), term.group(1).isEmpty() ? size : -size);
        }
        return Bodies.slope(factors.getOrDefault("x", 0), factors.getOrDefault("y", 0),
                factors.getOrDefault("z", 0));
    }

    private static void readSlopes(List<String> lines) {
        for (String line : lines) {
            Matcher row = SLOPE_ROW.matcher(line);
            if (row.matches()) {
                Checks.due(line, Integer.parseInt(row.group(2)), slope(row.group(1)));
            }
        }
    }
}
