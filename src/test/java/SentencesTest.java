import java.lang.reflect.Method;
import java.util.ArrayList;
import java.util.List;
import java.util.regex.Matcher;
import java.util.regex.Pattern;

/** Whether the tests by sentence quote the document, and whether no sentence of a promise is left without a test. */
public final class SentencesTest {
    private static final Class<?>[] TESTS = {TextBoundsTest.class, ActBoundsTest.class, AskBoundsTest.class};
    /** Sentences that say what is answered where something is too small, too large, empty, full or refused. */
    private static final Pattern BOUNDARY =
        Pattern.compile("(NONE|HIDDEN|False|-2|NoSuchElementException)(:| for) [^.]*\\.");
    private static int wrong = 0;

    public static void main(String[] args) throws Exception {
        String document = Kit.document();
        if (document == null) {
            System.out.println("the document is not here: nothing to hold the tests against");
            return;
        }
        List<Kit.Sentence> quoted = quoted(document);
        for (int promise = 1; promise <= 39; promise++) everySentenceIsQuoted(section(document, promise), promise, quoted);
        System.out.println(wrong == 0 ? "every boundary sentence has its test" : wrong + " sentences are without");
        if (wrong != 0) System.exit(1);
    }

    private static void fail(String what) {
        wrong++;
        System.out.println(what);
    }

    private static String section(String document, int promise) {
        int from = document.indexOf("## Promise " + promise + ": ");
        int to = from < 0 ? -1 : document.indexOf(" ## ", from);
        if (to < 0) {
            fail("the document has no promise " + promise);
            return "";
        }
        return document.substring(from, to);
    }

    private static List<Kit.Sentence> quoted(String document) {
        List<Kit.Sentence> quoted = new ArrayList<>();
        for (Class<?> tests : TESTS) {
            for (Method test : Kit.testsOf(tests)) {
                Kit.Sentence sentence = test.getAnnotation(Kit.Sentence.class);
                String where = sentence.promise() == 0 ? document : section(document, sentence.promise());
                if (!where.contains(sentence.says())) fail(test.getName() + " quotes what is not there: " + sentence.says());
                quoted.add(sentence);
            }
        }
        return quoted;
    }

    private static void everySentenceIsQuoted(String section, int promise, List<Kit.Sentence> quoted) {
        boolean any = false;
        for (Kit.Sentence sentence : quoted) any |= sentence.promise() == promise;
        if (!any) fail("promise " + promise + " has no test by sentence");
        Matcher boundary = BOUNDARY.matcher(section);
        while (boundary.find()) {
            boolean has = false;
            for (Kit.Sentence sentence : quoted) {
                has |= sentence.promise() == promise && sentence.says().contains(boundary.group());
            }
            if (!has) fail("promise " + promise + " has no test for: " + boundary.group());
        }
    }
}
