import java.lang.reflect.Method;
import java.lang.reflect.Modifier;
import java.nio.file.Files;
import java.nio.file.Path;
import java.util.Set;
import java.util.TreeSet;
import java.util.regex.Matcher;
import java.util.regex.Pattern;

/** Makes the calls of README.md's examples: each must answer the number that stands behind it. */
public final class ReadmeTest {
    private static final Pattern EXAMPLE = Pattern.compile("(?s)```java\n(.*?)```");
    private static final Pattern NEW = Pattern.compile("ZText z = new ZText\\((\\d+)\\);");
    private static final Pattern CALL = Pattern.compile("z\\.(\\w+)\\((.*)\\); +// (-?\\d+)(:.*)?");
    private static final Pattern IN_TABLE = Pattern.compile("(?m)^\\| `((\\w+)\\(.*?\\))` \\|");

    private static Method named(String name) {
        for (Method method : ZText.class.getDeclaredMethods()) {
            if (method.getName().equals(name) && Modifier.isPublic(method.getModifiers())) {
                return method;
            }
        }
        throw new IllegalArgumentException("README.md calls " + name + "(), which there is not");
    }

    private static Object value(String text, Class<?> type) {
        if (type == boolean.class) {
            return Boolean.valueOf(text);
        }
        if (text.startsWith("'")) {
            return (int) text.charAt(1);
        }
        long number = Long.decode(text.replaceAll("L$", ""));
        if (type == long.class) {
            return number;
        }
        return (int) number;
    }

    /** Parts at commas, but not at one that is itself a SIGN. */
    private static Object[] values(String text, Class<?>[] types) {
        String[] parts = text.isEmpty() ? new String[0] : text.split(", (?!')");
        Object[] values = new Object[parts.length];
        for (int k = 0; k < parts.length && k < types.length; k++) {
            values[k] = value(parts[k], types[k]);
        }
        return values;
    }

    private static void example(String lines, Set<String> shown) throws Exception {
        ZText z = null;
        for (String line : lines.split("\n")) {
            Matcher made = NEW.matcher(line);
            Matcher call = CALL.matcher(line);
            if (made.matches()) {
                z = new ZText(Integer.parseInt(made.group(1)));
            } else if (call.matches()) {
                Method method = named(call.group(1));
                Object got = method.invoke(z, values(call.group(2), method.getParameterTypes()));
                Due.is("README.md: " + line, (Integer) got, Long.parseLong(call.group(3)));
                shown.add(call.group(1));
            } else {
                Due.holds("README.md: a test can read " + line, false);
            }
        }
    }

    private static Set<String> face() {
        Set<String> names = new TreeSet<>();
        for (Method method : ZText.class.getDeclaredMethods()) {
            if (Modifier.isPublic(method.getModifiers())) {
                names.add(method.getName());
            }
        }
        return names;
    }

    private static String signature(Method method) {
        StringBuilder s = new StringBuilder();
        for (Class<?> type : method.getParameterTypes()) {
            s.append(s.length() == 0 ? "" : ",").append(type.getName());
        }
        return s.toString();
    }

    private static String typesOf(String call) {
        String inside = call.substring(call.indexOf('(') + 1, call.length() - 1);
        return inside.replaceAll("(\\w+) \\w+", "$1").replace(" ", "");
    }

    private static void tables(String readme) {
        Set<String> listed = new TreeSet<>();
        Matcher row = IN_TABLE.matcher(readme);
        while (row.find()) {
            Due.is("README.md: the arguments of " + row.group(1), typesOf(row.group(1)), signature(named(row.group(2))));
            listed.add(row.group(2));
        }
        // version() stands with the constructor, ahead of the document's groups.
        listed.add("version");
        Due.is("README.md: the calls in its tables", listed.toString(), face().toString());
    }

    public static void main(String[] args) throws Exception {
        String readme = Files.readString(Path.of("README.md"));
        tables(readme);
        Set<String> shown = new TreeSet<>();
        Matcher examples = EXAMPLE.matcher(readme);
        while (examples.find()) {
            example(examples.group(1), shown);
        }
        Due.is("README.md: the calls in its examples", shown.toString(), face().toString());
        Due.end();
    }
}
