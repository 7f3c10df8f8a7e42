import java.lang.reflect.Method;
import java.lang.reflect.Modifier;
import java.nio.file.Files;
import java.nio.file.Path;
import java.util.List;
import java.util.regex.Matcher;
import java.util.regex.Pattern;

/** The examples of README.md answer what their comments say, and README.md tells of every call. */
public final class ReadmeTest {
    private static final Pattern CALL = Pattern.compile("x\\.(\\w+)\\(([^)]*)\\); *// (true|false|-?\\d+)(:.*)?");
    private static final Pattern FEED = Pattern.compile("feed\\(x, \"([^\"]*)\"\\);");
    private static int calls = 0;
    private static int wrong = 0;

    public static void main(String[] args) throws Exception {
        String readme = Files.readString(Path.of("README.md"));
        examplesHold(List.of(readme.split("\n")));
        if (calls < 50) fail("only " + calls + " calls were found");
        for (Method m : LateStamps.class.getDeclaredMethods()) {
            boolean isTold = readme.contains("`" + m.getName() + "(") || readme.contains("x." + m.getName() + "(");
            if (Modifier.isPublic(m.getModifiers()) && !isTold) fail("nothing is told of " + m.getName());
        }
        System.out.println(wrong == 0 ? calls + " examples hold" : wrong + " are not as told");
        if (wrong != 0) System.exit(1);
    }

    private static void fail(String what) {
        wrong++;
        System.out.println(what);
    }

    private static void examplesHold(List<String> lines) throws Exception {
        LateStamps x = null;
        for (String line : lines) {
            Matcher call = CALL.matcher(line);
            Matcher feed = FEED.matcher(line);
            if (line.equals("LateStamps x = new LateStamps();")) {
                x = new LateStamps();
            } else if (feed.matches()) {
                Kit.feed(x, feed.group(1));
            } else if (call.matches()) {
                String got = answer(x, call.group(1), call.group(2));
                calls++;
                if (!got.equals(call.group(3))) fail("answers " + got + ": " + line);
            } else if (line.startsWith("x.")) {
                fail("no example that can be tried: " + line);
            }
        }
    }

    private static String answer(LateStamps x, String name, String told) throws Exception {
        for (Method m : LateStamps.class.getDeclaredMethods()) {
            if (!m.getName().equals(name) || !Modifier.isPublic(m.getModifiers())) continue;
            String[] words = told.isEmpty() ? new String[0] : told.split(", ");
            Object[] numbers = new Object[words.length];
            for (int i = 0; i < words.length; i++) {
                long number = Long.decode(words[i]);
                numbers[i] = m.getParameterTypes()[i] == long.class ? (Object) number : (Object) (int) number;
            }
            return String.valueOf(m.invoke(x, numbers));
        }
        return "no such call";
    }
}
