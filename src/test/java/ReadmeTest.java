import java.io.IOException;
import java.lang.reflect.Method;
import java.lang.reflect.Modifier;
import java.nio.file.Files;
import java.nio.file.Path;
import java.util.List;
import java.util.TreeSet;
import java.util.regex.Matcher;
import java.util.regex.Pattern;
import java.util.stream.Stream;

/** README.md: its table has every method of the class, and its example answers as told there. */
public final class ReadmeTest {
    private static final Pattern ROW = Pattern.compile("\\| `(\\w+) (\\w+)\\((.*?)\\)` \\|.*");
    private static final Pattern MADE = Pattern.compile("TourSolver x = new TourSolver\\((\\d+)\\);.*");
    private static final Pattern CALL = Pattern.compile("x\\.(\\w+)\\((.*?)\\); +// (true|false|-?\\d+)\\b.*");

    public static void main(String[] args) throws IOException, ReflectiveOperationException {
        List<String> lines = Files.readAllLines(Path.of("README.md"));
        table(lines);
        example(lines);
        Due.end();
    }

    private static void table(List<String> lines) {
        TreeSet<String> told = new TreeSet<>();
        for (String line : lines) {
            Matcher row = ROW.matcher(line);
            if (row.matches()) {
                told.add(row.group(1) + " " + row.group(2) + " " + numbers(row.group(3)).length);
            }
        }
        TreeSet<String> there = new TreeSet<>();
        for (Method m : TourSolver.class.getDeclaredMethods()) {
            if (Modifier.isPublic(m.getModifiers())) {
                there.add(m.getReturnType() + " " + m.getName() + " " + m.getParameterCount());
            }
        }
        Due.same("the table's methods", told.toString(), there.toString());
    }

    private static void example(List<String> lines) throws ReflectiveOperationException {
        TourSolver x = null;
        TreeSet<String> called = new TreeSet<>();
        for (String line : lines) {
            Matcher made = MADE.matcher(line);
            if (made.matches()) {
                x = new TourSolver(Integer.parseInt(made.group(1)));
            } else if (line.startsWith("x.")) {
                called.add(call(x, line));
            }
        }
        Due.same("methods called in the example", called.size(), 10);
    }

    /** Answers the name of the method. */
    private static String call(TourSolver x, String line) throws ReflectiveOperationException {
        Matcher call = CALL.matcher(line);
        if (!call.matches()) {
            Due.yes("a call with its answer: " + line, false);
            return line;
        }
        Object[] numbers = Stream.of(numbers(call.group(2))).map(Integer::valueOf).toArray();
        Class<?>[] types = Stream.of(numbers).map(number -> int.class).toArray(Class<?>[]::new);
        Object got = TourSolver.class.getMethod(call.group(1), types).invoke(x, numbers);
        Due.same(line, got.toString(), call.group(3));
        return call.group(1);
    }

    private static String[] numbers(String list) {
        return list.isEmpty() ? new String[0] : list.split(", ");
    }
}
