import java.io.IOException;
import java.nio.file.Files;
import java.nio.file.Path;
import java.util.HashMap;
import java.util.Map;

/** Counts what is due and what is not as due, under the sentence of the document or the readme that asks for it. */
final class Due {
    private static final Path DOCUMENT = Path.of("../shared/DOC.md");
    private static final Path README = Path.of("README.md");
    private static final int MOST_TOLD = 40;

    private static final Map<Path, String> PAGES = new HashMap<>();
    private static String sentence = "";
    private static int made;
    private static int madeBefore;
    private static int wrong;

    private Due() {
    }

    /** What follows is due by these words, which must stand in the document. */
    static void sentence(String words) {
        open(words, DOCUMENT);
    }

    /** What follows is due by these words, which must stand in the readme. */
    static void told(String words) {
        open(words, README);
    }

    private static void open(String words, Path page) {
        closeSentence();
        sentence = words;
        String all = PAGES.computeIfAbsent(page, Due::read);
        if (!all.isEmpty() && !all.contains(words)) {
            fail("these words do not stand in " + page);
        }
    }

    private static void closeSentence() {
        if (!sentence.isEmpty() && made == madeBefore) {
            fail("nothing was tested");
        }
        madeBefore = made;
    }

    private static String read(Path page) {
        try {
            return Files.exists(page) ? Files.readString(page).replaceAll("\\s+", " ") : "";
        } catch (IOException e) {
            throw new IllegalStateException(e);
        }
    }

    static void due(String what, long got, long want) {
        made++;
        if (got != want) {
            fail(what + " answered " + got + ", due is " + want);
        }
    }

    static void fail(String what) {
        wrong++;
        if (wrong <= MOST_TOLD) {
            System.out.println("[" + sentence + "] " + what);
        }
    }

    static void finish(String test) {
        closeSentence();
        System.out.println(test + ": " + made + " answers, " + wrong + " wrong");
        if (wrong != 0 || made == 0) {
            System.exit(1);
        }
    }
}
