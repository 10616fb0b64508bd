import java.io.IOException;
import java.lang.reflect.Method;
import java.lang.reflect.Modifier;
import java.nio.file.Files;
import java.nio.file.Path;
import java.util.Set;
import java.util.TreeSet;
import java.util.regex.Matcher;
import java.util.regex.Pattern;
import java.util.stream.Stream;

/** README.md shows every call of the class, and each answer that it shows is the one that is given. */
public final class ReadmeTest {
    private static final Check CHECK = new Check();
    private static final Pattern CALL = Pattern.compile("x\\.(\\w+)\\((.*?)\\); +// (-?\\d+)\\b.*");
    private static final int MOST_CALLS = 512;

    public static void main(String[] args) throws IOException, ReflectiveOperationException {
        String page = Files.readString(Path.of("README.md"));
        Set<String> shown = runRows(page);
        for (Method m : FortyHouses.class.getDeclaredMethods()) {
            if (Modifier.isPublic(m.getModifiers())) {
                CHECK.holds("README.md shows " + m.getName(), shown.contains(m.getName()));
            }
        }
        namesTests(page);
        CHECK.end();
    }

    private static Set<String> runRows(String page) throws ReflectiveOperationException {
        Set<String> shown = new TreeSet<>();
        FortyHouses x = null;
        int calls = 0;
        for (String row : page.split("\n")) {
            Matcher m = CALL.matcher(row);
            if (row.equals("FortyHouses x = new FortyHouses();")) {
                x = new FortyHouses();
                calls = 0;
            } else if (m.matches() && x != null) {
                shown.add(m.group(1));
                calls++;
                CHECK.due(row, call(x, m.group(1), m.group(2)), Long.parseLong(m.group(3)));
            } else {
                CHECK.holds("can be run: " + row, !row.startsWith("x."));
            }
        }
        CHECK.holds("no more calls than an object is good for", calls <= MOST_CALLS);
        return shown;
    }

    private static long call(FortyHouses x, String name, String list) throws ReflectiveOperationException {
        String[] numbers = list.isEmpty() ? new String[0] : list.split(", ");
        for (Method m : FortyHouses.class.getMethods()) {
            if (m.getName().equals(name) && m.getParameterCount() == numbers.length) {
                return ((Number) m.invoke(x, values(m.getParameterTypes(), numbers))).longValue();
            }
        }
        throw new NoSuchMethodException(name + "(" + list + ")");
    }

    private static Object[] values(Class<?>[] types, String[] numbers) {
        Object[] values = new Object[numbers.length];
        for (int i = 0; i < numbers.length; i++) {
            if (types[i] == long.class) {
                values[i] = Long.decode(numbers[i].replace("L", ""));
            } else {
                values[i] = Integer.decode(numbers[i]);
            }
        }
        return values;
    }

    private static void namesTests(String page) throws IOException {
        CHECK.holds("README.md says how the tests are run", page.contains("    .ci/run\n"));
        try (Stream<Path> files = Files.list(Path.of("src/test/java"))) {
            files.map(Path::toString).filter(name -> name.endsWith("Test.java")).forEach(name ->
                CHECK.holds("README.md names " + name, page.contains("`" + name + "`")));
        }
    }
}
