import java.io.IOException;
import java.lang.reflect.Field;
import java.lang.reflect.Method;
import java.lang.reflect.Modifier;
import java.nio.file.Files;
import java.nio.file.Path;
import java.util.ArrayList;
import java.util.List;
import java.util.Set;
import java.util.TreeSet;
import java.util.regex.Matcher;
import java.util.regex.Pattern;

/** That what README.md says of the class and of its tests is so. To be run from the project's directory. */
public final class ReadmeTest {
    private static final Path TESTS = Path.of("src/test/java");

    private final Due due = new Due();
    private final String readme;

    private ReadmeTest(String readme) {
        this.readme = readme;
    }

    public static void main(String[] args) throws Exception {
        ReadmeTest t = new ReadmeTest(Files.readString(Path.of("README.md")));
        t.example();
        t.calls();
        t.refusals();
        t.testsOfTheTable();
        t.due.end();
    }

    /** The example's lines are done as they stand: a call of numbers, and behind // the answer that is due. */
    private void example() throws ReflectiveOperationException {
        Matcher lines = Pattern.compile("(?m)^x\\.(\\w+)\\(([^)]*)\\);\\s+// (-?\\d+): ").matcher(readme);
        HallCarrier x = new HallCarrier();
        int done = 0;
        while (lines.find()) {
            due.is("README: " + lines.group(1) + "(" + lines.group(2) + ")", answer(x, lines.group(1), lines.group(2)), Long.parseLong(lines.group(3)));
            done++;
        }
        int told = 0;
        for (String line : readme.split("\n")) {
            told += line.startsWith("x.") ? 1 : 0;
        }
        due.is("lines of the example that have an answer", done, told);
        due.holds("README has an example", done > 0);
    }

    private static long answer(HallCarrier x, String name, String numbers) throws ReflectiveOperationException {
        for (Method m : HallCarrier.class.getDeclaredMethods()) {
            if (Modifier.isPublic(m.getModifiers()) && m.getName().equals(name)) {
                return ((Number) m.invoke(x, arguments(m, numbers))).longValue();
            }
        }
        return Long.MIN_VALUE;
    }

    private static Object[] arguments(Method m, String numbers) {
        List<Object> all = new ArrayList<>();
        for (String number : numbers.isEmpty() ? new String[0] : numbers.split(",\\s*")) {
            long v = Long.decode(number.replaceAll("L$", ""));
            if (m.getParameterTypes()[all.size()] == long.class) {
                all.add(v);
            } else {
                all.add((int) v);
            }
        }
        return all.toArray();
    }

    private void calls() {
        Set<String> face = new TreeSet<>();
        for (Method m : HallCarrier.class.getDeclaredMethods()) {
            if (Modifier.isPublic(m.getModifiers())) {
                face.add(m.getName());
            }
        }
        due.holds("README's table has each call: " + face, named("(?m)^\\| (`[a-z]+`(?:, `[a-z]+`)*) \\|", "`([a-z]+)`").equals(face));
    }

    private void refusals() throws IllegalAccessException {
        for (Field f : HallCarrier.class.getDeclaredFields()) {
            if (Modifier.isPublic(f.getModifiers())) {
                String told = "`" + f.getName() + "` (" + f.getInt(null) + ")";
                due.holds("README says " + told, readme.replaceAll("\\s+", " ").contains(told));
            }
        }
    }

    private void testsOfTheTable() throws IOException {
        Set<String> there = new TreeSet<>();
        try (var files = Files.list(TESTS)) {
            files.map(file -> file.getFileName().toString()).filter(name -> name.endsWith("Test.java")).forEach(there::add);
        }
        Set<String> told = named("(?m)^\\| `src/test/java/([^`]+)` \\|", "(.+)");
        due.holds("README's table " + told + " has each test there is: " + there, told.equals(there));
    }

    /** All that a pattern finds in each first group of another pattern. */
    private Set<String> named(String rows, String names) {
        Set<String> all = new TreeSet<>();
        Matcher row = Pattern.compile(rows).matcher(readme);
        while (row.find()) {
            Matcher name = Pattern.compile(names).matcher(row.group(1));
            while (name.find()) {
                all.add(name.group(1));
            }
        }
        return all;
    }
}
