import java.lang.annotation.Retention;
import java.lang.annotation.RetentionPolicy;
import java.lang.reflect.InvocationTargetException;
import java.lang.reflect.Method;
import java.nio.file.Files;
import java.nio.file.Path;
import java.util.ArrayList;
import java.util.Comparator;
import java.util.List;
import java.util.NoSuchElementException;

/** What the tests by sentence share: the runner, answers held against what is due, texts told, refusals. */
final class Kit {
    static final int NONE = LateStamps.NONE;
    static final int HIDDEN = LateStamps.HIDDEN;
    static final Path DOCUMENT = Path.of("../shared/DOC.md");

    /** Arguments far out of all bounds. */
    static final int[] FAR = {Integer.MIN_VALUE, Integer.MIN_VALUE + 1, -1000000, 1000000, Integer.MAX_VALUE - 1,
        Integer.MAX_VALUE};

    /** The words of the document that a test stands for; promise 0: the section 'Terms' or another one. */
    @Retention(RetentionPolicy.RUNTIME)
    @interface Sentence {
        int promise();
        String says();
    }

    interface Call {
        long answer();
    }

    private static int asked = 0;
    private static int wrong = 0;
    private static String test = "";

    private Kit() {
    }

    // ---- the runner ----

    static List<Method> testsOf(Class<?> tests) {
        List<Method> found = new ArrayList<>();
        for (Method method : tests.getDeclaredMethods()) {
            if (method.isAnnotationPresent(Sentence.class)) found.add(method);
        }
        found.sort(Comparator.comparing(Method::getName));
        return found;
    }

    /** Each test by itself: one that fails, or throws, does not keep the others from being run. */
    static void runAll(Class<?> tests) throws Exception {
        List<Method> all = testsOf(tests);
        for (Method method : all) {
            test = "promise " + method.getAnnotation(Sentence.class).promise() + ", " + method.getName();
            int before = asked;
            method.setAccessible(true);
            try {
                method.invoke(null);
            } catch (InvocationTargetException e) {
                fail("threw " + e.getCause());
            }
            if (asked == before) fail("asks nothing");
        }
        if (all.isEmpty()) fail("there is no test");
        System.out.println(wrong == 0 ? all.size() + " sentences hold" : wrong + " answers are not as due");
        if (wrong != 0) System.exit(1);
    }

    static void fail(String what) {
        wrong++;
        System.out.println(test + ": " + what);
    }

    static void due(String call, long got, long want) {
        asked++;
        if (got != want) fail(call + " answered " + got + ", due is " + want);
    }

    static void due(String call, boolean got, boolean want) {
        due(call, got ? 1 : 0, want ? 1 : 0);
    }

    /** The document with its white space made one blank each; null: it can't be read here. */
    static String document() throws Exception {
        return Files.isReadable(DOCUMENT) ? Files.readString(DOCUMENT).replaceAll("\\s+", " ") : null;
    }

    // ---- texts ----

    static int feed(LateStamps x, String text) {
        int length = x.count(2);
        for (int from = 0; from < text.length(); from += 20) {
            int[] words = new int[5];
            for (int i = 0; i < 20 && from + i < text.length(); i++) {
                words[i / 4] |= (text.charAt(from + i) & 255) << 24 - i % 4 * 8;
            }
            length = x.feed(words[0], words[1], words[2], words[3], words[4]);
        }
        return length;
    }

    static int word(String four) {
        return four.charAt(0) << 24 | four.charAt(1) << 16 | four.charAt(2) << 8 | four.charAt(3);
    }

    static int tell(LateStamps x, String text, int sort) {
        x.end(0);
        feed(x, text);
        int answer = x.text(sort);
        if (answer < 0) fail("'" + text + "' was not taken");
        return answer;
    }

    static LateStamps store(String text) {
        LateStamps x = new LateStamps();
        tell(x, text, 0);
        return x;
    }

    static void fault(int sort, String text, int want) {
        LateStamps x = new LateStamps();
        feed(x, text);
        due("fault(" + sort + ") of '" + text + "'", x.fault(sort), want);
    }

    // ---- what is refused ----

    /** Calls that ask for what is not there: each answers so, and nothing at all is changed. */
    static void leaves(LateStamps x, long want, Call... calls) {
        String before = glance(x) + statusOf(x);
        for (int i = 0; i < calls.length; i++) due("call " + i, calls[i].answer(), want);
        due("all is as it was", (glance(x) + statusOf(x)).equals(before), true);
    }

    /** ACTS that can't be: each answers NONE and counts in this STATUS, and nothing else is changed. */
    static void refused(LateStamps x, int reason, Call... calls) {
        String before = glance(x);
        int[] status = new int[4];
        for (int i = 0; i < 4; i++) status[i] = x.status(i);
        for (int i = 0; i < calls.length; i++) {
            due("call " + i, calls[i].answer(), NONE);
            status[reason]++;
        }
        for (int i = 0; i < 4; i++) due("status(" + i + ")", x.status(i), status[i]);
        due("all else is as it was", glance(x).equals(before), true);
    }

    static void statusIs(LateStamps x, int zero, int one, int two, int three) {
        due("status(0)", x.status(0), zero);
        due("status(1)", x.status(1), one);
        due("status(2)", x.status(2), two);
        due("status(3)", x.status(3), three);
    }

    static void thrown(LateStamps x, int seat, int what) {
        boolean thrown = false;
        try {
            x.seat(seat, what);
        } catch (NoSuchElementException e) {
            thrown = e.getClass() == NoSuchElementException.class;
        }
        due("seat(" + seat + ", " + what + ") throws", thrown, true);
    }

    // ---- what there is ----

    static void versionIs(LateStamps x, int key, int i, int mark, int value, int seen, int seat) {
        due("version(" + key + ", " + i + ", 0)", x.version(key, i, 0), mark);
        due("version(" + key + ", " + i + ", 1)", x.version(key, i, 1), value);
        due("version(" + key + ", " + i + ", 2)", x.version(key, i, 2), seen);
        due("version(" + key + ", " + i + ", 3)", x.version(key, i, 3), seat);
    }

    static void logIs(LateStamps x, int i, int sort, int seat, int number) {
        due("log(" + i + ", 0)", x.log(i, 0), sort);
        due("log(" + i + ", 1)", x.log(i, 1), seat);
        due("log(" + i + ", 2)", x.log(i, 2), number);
    }

    private static String statusOf(LateStamps x) {
        return " " + x.status(0) + " " + x.status(1) + " " + x.status(2) + " " + x.status(3);
    }

    /** The same by few calls, as an object has 512 alone: sums, the LOG's latest, of each KEY the newest VERSION. */
    private static String glance(LateStamps x) {
        StringBuilder told = new StringBuilder();
        int[] sums = {0, 1, 2, 3, 4, 5, 11, 12, 13};
        int taken = 0;
        for (int i = 0; i < sums.length; i++) {
            int sum = x.all(sums[i]);
            told.append(sum).append(' ');
            if (i < 4 && sum > 0) taken |= sum;
        }
        for (int what = 0; what < 6; what++) told.append(x.count(what)).append(' ');
        for (int what = 0; what < 3; what++) told.append(x.log(0, what)).append(' ');
        for (int seat = 0; seat < 8; seat++) {
            if ((taken >> seat & 1) == 1) told.append(x.seat(seat, 3)).append(' ');
        }
        for (int key = 0; x.versions(key) > 0; key++) {
            int last = x.versions(key) - 1;
            for (int what = 0; what < 4; what++) told.append(x.version(key, last, what)).append(' ');
        }
        return told.toString();
    }

    /** What can be asked about SEATS, VERSIONS, LOG and the rest, as one text; the LOG's latest four alone. */
    static String look(LateStamps x) {
        StringBuilder told = new StringBuilder();
        for (int what = 0; what < 14; what++) told.append(x.all(what)).append(' ');
        for (int what = 0; what < 6; what++) told.append(x.count(what)).append(' ');
        int keys = x.count(0);
        for (int seat = 0; keys > 0 && seat < 8; seat++) lookAtSeat(x, seat, keys, told);
        for (int key = 0; key < keys; key++) lookAtKey(x, key, told);
        for (int i = 0; i < 4; i++) {
            for (int what = 0; what < 3; what++) told.append(x.log(i, what)).append(' ');
        }
        return told.toString();
    }

    private static void lookAtSeat(LateStamps x, int seat, int keys, StringBuilder told) {
        int state = x.seat(seat, 0);
        told.append("seat ").append(state).append(' ');
        if (state == 0) return;
        for (int what = 1; what < 5; what++) told.append(x.seat(seat, what)).append(' ');
        for (int key = 0; key < keys; key++) told.append(x.readBy(seat, key)).append(' ');
        for (int i = 0; i < 12 && x.deed(seat, i, 0) != HIDDEN; i++) {
            for (int what = 0; what < 3; what++) told.append(x.deed(seat, i, what)).append(' ');
        }
    }

    private static void lookAtKey(LateStamps x, int key, StringBuilder told) {
        int versions = x.versions(key);
        told.append("key ").append(versions).append(' ');
        for (int i = 0; i < versions; i++) {
            for (int what = 0; what < 4; what++) told.append(x.version(key, i, what)).append(' ');
        }
    }
}
