import java.io.IOException;
import java.lang.reflect.InvocationTargetException;
import java.lang.reflect.Method;
import java.nio.file.Files;
import java.nio.file.Path;
import java.util.Set;
import java.util.TreeSet;
import java.util.regex.Matcher;
import java.util.regex.Pattern;

/** What README.md tells of calls is so: each answers what stands behind it, and its table has them all. */
public final class ReadmeTest {
    private static final Pattern CALL = Pattern.compile("x\\.(\\w+)\\(([^)]*)\\); +// (-?\\w+):.*");

    public static void main(String[] args) throws IOException, ReflectiveOperationException {
        String readme = Files.readString(Path.of("README.md"));
        calls(readme);
        texts(readme);
        table(readme);
        Check.finish("ReadmeTest");
    }

    private static void calls(String readme) throws ReflectiveOperationException {
        SkirtsByTheDay x = new SkirtsByTheDay();
        int made = 0;
        for (String line : readme.split("\n")) {
            Matcher m = CALL.matcher(line);
            if (m.matches()) {
                Check.due(line + ": as told", answer(x, m.group(1), m.group(2)).equals(m.group(3)), true);
                made++;
            }
        }
        Check.due("README.md has calls that can be made", made > 10, true);
    }

    private static String answer(SkirtsByTheDay x, String name, String numbers) throws ReflectiveOperationException {
        String[] each = numbers.isEmpty() ? new String[0] : numbers.split(", ");
        Object[] values = new Object[each.length];
        for (int k = 0; k < each.length; k++) {
            values[k] = Integer.decode(each[k]);
        }
        for (Method method : SkirtsByTheDay.class.getMethods()) {
            if (method.getName().equals(name) && method.getParameterCount() == values.length) {
                return made(x, method, values);
            }
        }
        return "no such call";
    }

    private static String made(SkirtsByTheDay x, Method method, Object[] values) throws IllegalAccessException {
        try {
            return String.valueOf(method.invoke(x, values));
        } catch (InvocationTargetException thrown) {
            return String.valueOf(thrown.getCause());
        }
    }

    /** The texts told as examples can be read, each by the first call that its line names. */
    private static void texts(String readme) throws ReflectiveOperationException {
        SkirtsByTheDay x = Check.told("5", "p50@0", "");
        int read = 0;
        for (String line : readme.split("\n")) {
            Matcher m = Pattern.compile("\\| `(almanac|house|rule|year|way)`.*\\| `([^`]+)` *\\|").matcher(line);
            if (m.matches()) {
                Check.text(x, m.group(2));
                String answer = answer(x, m.group(1), m.group(1).equals("way") ? "0" : "");
                Check.due(line + ": can be read", answer.matches("[0-9]+"), true);
                read++;
            }
        }
        Check.due("texts told as examples", read, 5);
    }

    private static void table(String readme) {
        Set<String> told = new TreeSet<>();
        for (String line : readme.split("\n")) {
            Matcher m = Pattern.compile("\\| [a-z ,]+\\| `([a-z ]+)` *\\|").matcher(line);
            if (m.matches()) {
                told.addAll(Set.of(m.group(1).split(" ")));
            }
        }
        Set<String> there = new TreeSet<>();
        for (Method method : SkirtsByTheDay.class.getDeclaredMethods()) {
            if (java.lang.reflect.Modifier.isPublic(method.getModifiers())) {
                there.add(method.getName());
            }
        }
        Check.due("the table has all calls and no others", told.equals(there), true);
    }
}
