import java.io.IOException;
import java.lang.reflect.Field;
import java.lang.reflect.Method;
import java.lang.reflect.Modifier;
import java.nio.file.Files;
import java.nio.file.Path;
import java.util.Arrays;
import java.util.List;
import java.util.Set;
import java.util.TreeSet;
import java.util.regex.Matcher;
import java.util.regex.Pattern;

/** The document's face, and the rules of the language that can be looked at from outside. */
public final class FaceTest {
    private static final String SOURCE = "src/main/java/TopDownTowers.java";
    private static final String[] FACE = {
        "int write(long,int)", "int erase()", "int fault()", "int site()", "int storey(int,int)", "int as(int,int)",
        "int why(int)", "int lift(int)", "int rest(int)", "int up(int)", "int floor(int)", "int keep(int)",
        "int back(int)", "int orders(int)", "int tallest(int)", "int jacks()", "int soonest(int)",
        "long odds(int,int,int,int)", "int without(int)", "int in(int,int)", "int row(int)", "int burn()",
        "int judge(int)", "int seen(int,int)", "int forget()", "int fits(int,int)", "int count(int)"};
    private static final String[] CONSTANTS = {"NONE", "UNKNOWN", "OUTSIDE", "NOT", "FULL"};

    private FaceTest() {
    }

    public static void main(String[] args) throws IOException {
        methods();
        fields();
        classes();
        source();
        Check.end("FaceTest");
    }

    private static String told(Method method) {
        StringBuilder types = new StringBuilder();
        for (Class<?> type : method.getParameterTypes()) {
            types.append(types.length() == 0 ? "" : ",").append(type.getName());
        }
        return method.getReturnType().getName() + " " + method.getName() + "(" + types + ")";
    }

    private static void methods() {
        Set<String> open = new TreeSet<>();
        Set<String> openNames = new TreeSet<>();
        for (Method method : TopDownTowers.class.getDeclaredMethods()) {
            if (!Modifier.isPrivate(method.getModifiers())) {
                open.add(told(method));
                openNames.add(method.getName());
                Check.holds(method + " is public", Modifier.isPublic(method.getModifiers()));
                Check.holds(method + " is of the object", !Modifier.isStatic(method.getModifiers()));
            }
        }
        Check.holds("the methods of the face: " + open, open.equals(new TreeSet<>(Arrays.asList(FACE))));
        for (Class<?> type : allClasses()) {
            for (Method method : type.getDeclaredMethods()) {
                boolean isPrivate = Modifier.isPrivate(method.getModifiers());
                Check.holds(method + " bears a name of the face", !isPrivate || !openNames.contains(method.getName()));
                Check.holds(method + " takes seven at most", method.getParameterCount() <= 7);
            }
        }
        Check.due("constructors", TopDownTowers.class.getDeclaredConstructors().length, 1);
        Check.due("public constructors", TopDownTowers.class.getConstructors().length, 1);
        Check.holds("final", Modifier.isFinal(TopDownTowers.class.getModifiers()));
        Check.holds("public", Modifier.isPublic(TopDownTowers.class.getModifiers()));
    }

    private static void fields() {
        Set<String> open = new TreeSet<>();
        for (Field field : TopDownTowers.class.getDeclaredFields()) {
            if (!Modifier.isPrivate(field.getModifiers())) {
                open.add(field.getName());
            }
        }
        Check.holds("the constants of the face: " + open, open.equals(new TreeSet<>(Arrays.asList(CONSTANTS))));
        Check.due("NONE", TopDownTowers.NONE, -1);
        Check.due("UNKNOWN", TopDownTowers.UNKNOWN, -2);
        Check.due("OUTSIDE", TopDownTowers.OUTSIDE, -3);
        Check.due("NOT", TopDownTowers.NOT, -4);
        Check.due("FULL", TopDownTowers.FULL, -5);
        for (Class<?> type : allClasses()) {
            int own = 0;
            for (Field field : type.getDeclaredFields()) {
                boolean isStatic = Modifier.isStatic(field.getModifiers());
                Check.holds(field + " is final", !isStatic || Modifier.isFinal(field.getModifiers()));
                own += isStatic ? 0 : 1;
            }
            Check.holds(type + " has some twenty fields", own <= 20);
        }
    }

    private static List<Class<?>> allClasses() {
        Class<?>[] inside = TopDownTowers.class.getDeclaredClasses();
        Class<?>[] all = Arrays.copyOf(inside, inside.length + 1);
        all[inside.length] = TopDownTowers.class;
        return List.of(all);
    }

    private static void classes() {
        Check.holds("some twelve classes", allClasses().size() <= 12);
        for (Class<?> type : TopDownTowers.class.getDeclaredClasses()) {
            Check.holds(type + " is static", Modifier.isStatic(type.getModifiers()));
            Check.holds(type + " is not open", !Modifier.isPublic(type.getModifiers()));
        }
    }

    private static void source() throws IOException {
        String source = Files.readString(Path.of(SOURCE)).replaceAll("(?s)/\\*.*?\\*/", "").replaceAll("//.*", "");
        String[] barred = {"\\b(throw|throws|try|catch|synchronized|assert|import|package)\\b", "->", "::",
            "\\b\\w+Exact\\b", "\\b(hashCode|toString|println|System\\.(?!arraycopy))", "\\[\\]\\[\\]"};
        for (String bar : barred) {
            Matcher found = Pattern.compile(bar).matcher(source);
            Check.holds("the source has no " + bar, !found.find());
        }
    }
}
