import java.io.IOException;
import java.lang.reflect.Method;
import java.lang.reflect.Modifier;
import java.nio.file.Files;
import java.nio.file.Path;
import java.util.Set;
import java.util.TreeSet;
import java.util.regex.Matcher;
import java.util.regex.Pattern;

/** README.md's tower, call by call: each answers what stands behind it, and no call of the face is left out. */
public final class ReadmeTest {
    private static final Path README = Path.of("README.md");
    private static final Pattern MADE = Pattern.compile("^TopDownTowers tower = new TopDownTowers\\(\\);$");
    private static final Pattern WRITTEN = Pattern.compile("^write\\(tower, \"([^\"]*)\"\\);$");
    private static final Pattern CALLED = Pattern.compile("^tower\\.(\\w+)\\(([^)]*)\\); +// (\\w+)\\b.*$");

    private static final Set<String> called = new TreeSet<>();
    private static TopDownTowers tower;

    private ReadmeTest() {
    }

    public static void main(String[] args) throws IOException, ReflectiveOperationException {
        boolean inside = false;
        for (String line : Files.readAllLines(README)) {
            inside = MADE.matcher(line).matches() || inside && !line.startsWith("```");
            if (inside && !line.isEmpty()) {
                play(line);
            }
        }
        for (Method method : TopDownTowers.class.getDeclaredMethods()) {
            boolean isOpen = Modifier.isPublic(method.getModifiers());
            Check.holds("README.md shows " + method.getName(), !isOpen || called.contains(method.getName()));
        }
        Check.end("ReadmeTest");
    }

    private static void play(String line) throws ReflectiveOperationException {
        Matcher written = WRITTEN.matcher(line);
        Matcher call = CALLED.matcher(line);
        if (MADE.matcher(line).matches()) {
            tower = new TopDownTowers();
        } else if (written.matches()) {
            Check.write(tower, written.group(1));
        } else if (call.matches()) {
            called.add(call.group(1));
            Check.due(line, answer(call.group(1), call.group(2)), number(call.group(3)));
        } else {
            Check.holds("a line of README.md is understood: " + line, false);
        }
    }

    private static long answer(String name, String arguments) throws ReflectiveOperationException {
        String[] told = arguments.isEmpty() ? new String[0] : arguments.split(", ");
        for (Method method : TopDownTowers.class.getDeclaredMethods()) {
            if (method.getName().equals(name) && method.getParameterCount() == told.length) {
                Object[] values = new Object[told.length];
                for (int i = 0; i < told.length; i++) {
                    boolean isLong = method.getParameterTypes()[i] == long.class;
                    values[i] = isLong ? (Object) number(told[i]) : (Object) (int) number(told[i]);
                }
                return ((Number) method.invoke(tower, values)).longValue();
            }
        }
        throw new NoSuchMethodException(name + " of " + told.length);
    }

    private static long number(String word) throws ReflectiveOperationException {
        String name = word.replace("TopDownTowers.", "");
        if (Character.isUpperCase(name.charAt(0))) {
            return TopDownTowers.class.getField(name).getInt(null);
        }
        return Long.decode(name.replace("L", ""));
    }
}
