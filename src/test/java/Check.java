import java.io.IOException;
import java.io.UncheckedIOException;
import java.nio.file.Files;
import java.nio.file.Path;

/** What the tests share: answers that are due, and texts told to a tower. */
final class Check {
    private static final Path DOCUMENT = Path.of("../shared/DOC.md");

    private static int wrong = 0;
    private static int looked = 0;
    private static String sentence = "";
    private static String document = "";

    private Check() {
    }

    static void due(String call, long got, long want) {
        looked++;
        if (got != want) {
            wrong++;
            System.out.println(sentence + call + " answered " + got + ", due is " + want);
        }
    }

    static void holds(String what, boolean is) {
        due(what, is ? 1 : 0, 1);
    }

    /** What is checked from here on is asked by these words; they must stand in the document, sign by sign. */
    static void sentence(String words) {
        sentence = "[" + words + "] ";
        holds("the document has these words", document().contains(words));
    }

    private static String document() {
        if (document.isEmpty()) {
            try {
                document = Files.readString(DOCUMENT);
            } catch (IOException e) {
                throw new UncheckedIOException(e);
            }
        }
        return document;
    }

    static void end(String name) {
        System.out.println(name + ": " + looked + " looked at, " + wrong + " wrong");
        if (wrong != 0 || looked == 0) {
            System.exit(1);
        }
    }

    /** Writes a text, eight bytes a call. */
    static void write(TopDownTowers tower, String text) {
        for (int from = 0; from < text.length(); from += 8) {
            int n = Math.min(8, text.length() - from);
            due("write of " + text, tower.write(packed(text, from, n), n) >= 0 ? 1 : 0, 1);
        }
    }

    static long packed(String text, int from, int n) {
        long bytes = 0;
        for (int i = 0; i < n; i++) {
            bytes |= (long) (text.charAt(from + i) & 255) << 8 * i;
        }
        return bytes;
    }

    /** Tells a text that has no FAULT. */
    static void tell(TopDownTowers tower, String text) {
        write(tower, text);
        due("site() of " + text, tower.site(), text.split(";", -1).length);
    }

    static TopDownTowers towerOf(String text) {
        TopDownTowers tower = new TopDownTowers();
        tell(tower, text);
        return tower;
    }
}
