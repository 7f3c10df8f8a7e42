import java.lang.reflect.Constructor;
import java.lang.reflect.Field;
import java.lang.reflect.Method;
import java.lang.reflect.Modifier;
import java.nio.file.Files;
import java.nio.file.Path;
import java.util.HashSet;
import java.util.List;
import java.util.Set;
import java.util.TreeSet;

/** What of LANGUAGE.md can be seen from the source and the classes. The first argument is the source's path. */
public final class LanguageTest {
    private static final String[] FACE = {"feed", "end", "fault", "text", "rule", "seat", "readBy", "deed", "versions",
        "version", "open", "openAt", "read", "write", "commit", "abort", "retry", "prune", "years", "status", "undo",
        "log", "would", "since", "falls", "sures", "retries", "asOf", "step", "run", "perform", "mix", "odds",
        "shares", "all", "image", "back", "count"};
    private static final String[] BANNED = {"\\bcatch\\b", "\\bfinally\\b", "->", "::", "Exact\\b", "\\bsynchronized\\b",
        "\\bassert\\b", "\\bprotected\\b", "\\bpackage\\b", "\\bObject\\b", "\\bvar\\b", "\\bstatic \\{", "\\bdouble\\b",
        "\\bfloat\\b", "\\bSystem\\.(?!arraycopy)", "\\bwhile \\(true\\)", "\\bfor \\(;;"};
    private static int wrong = 0;

    public static void main(String[] args) throws Exception {
        String source = Files.readString(Path.of(args[0]));
        sourceKeeps(source);
        methodsAreShort(List.of(source.split("\n", -1)));
        faceIs();
        classesKeep();
        System.out.println(wrong == 0 ? "the rules are kept" : wrong + " rules are broken");
        if (wrong != 0) System.exit(1);
    }

    private static void due(boolean holds, String what) {
        if (!holds) {
            wrong++;
            System.out.println(what);
        }
    }

    private static void sourceKeeps(String source) {
        String code = source.replaceAll("(?s)/\\*.*?\\*/", "").replaceAll("//[^\n]*", "").replaceAll("\"[^\"\n]*\"", "\"\"");
        for (String banned : BANNED) {
            due(!java.util.regex.Pattern.compile(banned).matcher(code).find(), "the source has " + banned);
        }
        due(code.split("\nimport ").length + (code.startsWith("import ") ? 1 : 0) == 2, "one import alone");
        due(source.startsWith("import java.util.NoSuchElementException;"), "the import is NoSuchElementException");
        for (char sign : source.toCharArray()) due(sign < 128, "a sign above 127");
    }

    private static void methodsAreShort(List<String> lines) {
        int from = -1;
        for (int i = 0; i < lines.size(); i++) {
            String line = lines.get(i);
            if (line.matches(" {4,8}(public|private) [^=;]*\\(.*\\{")) from = i;
            if (from >= 0 && line.matches(" {4,8}\\}")) {
                due(i - from < 60, "a long method at line " + (from + 1));
                from = -1;
            }
        }
    }

    private static void faceIs() {
        Set<String> methods = new TreeSet<>();
        for (Method m : LateStamps.class.getDeclaredMethods()) {
            if (Modifier.isPublic(m.getModifiers())) due(methods.add(m.getName()), "two of " + m.getName());
            else due(Modifier.isPrivate(m.getModifiers()), "neither public nor private: " + m.getName());
        }
        due(methods.equals(new TreeSet<>(List.of(FACE))), "the face has " + methods);
        Set<String> fields = new TreeSet<>();
        for (Field f : LateStamps.class.getDeclaredFields()) {
            if (!Modifier.isPrivate(f.getModifiers())) fields.add(f.getName());
        }
        due(fields.equals(Set.of("NONE", "HIDDEN")), "the constants are " + fields);
        Constructor<?>[] made = LateStamps.class.getDeclaredConstructors();
        due(made.length == 1 && Modifier.isPublic(made[0].getModifiers()), "one public constructor");
        due(Modifier.isFinal(LateStamps.class.getModifiers()), "the class is final");
    }

    private static void classesKeep() {
        Set<String> face = new HashSet<>(List.of(FACE));
        Class<?>[] inside = LateStamps.class.getDeclaredClasses();
        due(inside.length < 12, "too many classes");
        for (Class<?> c : inside) {
            due(Modifier.isStatic(c.getModifiers()), c + " is not static");
            for (Method m : c.getDeclaredMethods()) {
                due(!face.contains(m.getName()), "a method inside bears a public name: " + m.getName());
                due(m.getParameterCount() <= 7, "too many parameters: " + m.getName());
            }
            int fields = 0;
            for (Field f : c.getDeclaredFields()) {
                if (Modifier.isStatic(f.getModifiers())) due(Modifier.isFinal(f.getModifiers()), f + " is not final");
                else fields++;
            }
            due(fields <= 20, "too many fields in " + c);
        }
    }
}
