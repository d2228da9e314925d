import java.io.IOException;
import java.lang.reflect.Method;
import java.nio.file.Files;
import java.nio.file.Path;
import java.util.HashSet;
import java.util.List;
import java.util.Set;
import java.util.TreeSet;
import java.util.regex.Matcher;
import java.util.regex.Pattern;

/** Runs the example of README.md line by line: each call must give the answer that stands beside it. */
public final class ReadmeTest {
    private static final Pattern MAKING = Pattern.compile("TwoDimMatcher m = new TwoDimMatcher\\((.*)\\);");
    private static final Pattern CALL = Pattern.compile("m\\.(\\w+)\\((.*)\\); *// (true|false|-?\\d+)(:.*)?");

    private static int wrong = 0;

    private static void tell(String what) {
        wrong++;
        System.out.println(what);
    }

    private static List<String> example() throws IOException {
        List<String> lines = Files.readAllLines(Path.of("README.md"));
        int begin = lines.indexOf("```java");
        List<String> rest = lines.subList(begin + 1, lines.size());
        return rest.subList(0, rest.indexOf("```"));
    }

    private static Object[] numbers(String arguments) {
        if (arguments.isEmpty()) {
            return new Object[0];
        }
        return Pattern.compile(", ").splitAsStream(arguments).map(Integer::valueOf).toArray();
    }

    private static Method method(String name) {
        for (Method method : TwoDimMatcher.class.getMethods()) {
            if (method.getName().equals(name)) {
                return method;
            }
        }
        throw new IllegalStateException("no method " + name);
    }

    private static Set<String> methodsOfTheFace() {
        Set<String> names = new TreeSet<>();
        for (Method method : TwoDimMatcher.class.getMethods()) {
            if (method.getDeclaringClass() == TwoDimMatcher.class) {
                names.add(method.getName());
            }
        }
        return names;
    }

    public static void main(String[] args) throws IOException, ReflectiveOperationException {
        List<String> example = example();
        Matcher making = MAKING.matcher(example.get(0));
        if (!making.matches()) {
            throw new IllegalStateException("the example does not begin with a new object: " + example.get(0));
        }
        Object[] sides = numbers(making.group(1));
        TwoDimMatcher m = new TwoDimMatcher((Integer) sides[0], (Integer) sides[1]);
        Set<String> used = new HashSet<>();
        for (String line : example.subList(1, example.size())) {
            Matcher call = CALL.matcher(line);
            if (!call.matches()) {
                tell("not a call with its answer: " + line);
                continue;
            }
            used.add(call.group(1));
            String got = String.valueOf(method(call.group(1)).invoke(m, numbers(call.group(2))));
            if (!got.equals(call.group(3))) {
                tell(line + "\n    answered " + got);
            }
        }
        Set<String> unused = methodsOfTheFace();
        unused.removeAll(used);
        unused.forEach(name -> tell("the example does not show " + name));
        System.out.println(wrong == 0 ? "the example of README.md holds" : wrong + " faults in the example of README.md");
        if (wrong != 0) {
            System.exit(1);
        }
    }
}
