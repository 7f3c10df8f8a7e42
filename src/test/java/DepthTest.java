import com.sun.source.tree.CompilationUnitTree;
import com.sun.source.tree.ExpressionTree;
import com.sun.source.tree.IdentifierTree;
import com.sun.source.tree.MemberSelectTree;
import com.sun.source.tree.MethodInvocationTree;
import com.sun.source.tree.MethodTree;
import com.sun.source.util.JavacTask;
import com.sun.source.util.TreeScanner;
import java.nio.file.Path;
import java.util.ArrayList;
import java.util.HashSet;
import java.util.List;
import java.util.Map;
import java.util.Set;
import java.util.TreeMap;
import java.util.TreeSet;
import javax.tools.JavaCompiler;
import javax.tools.StandardJavaFileManager;
import javax.tools.ToolProvider;

/**
 * LANGUAGE.md, rules 8 and 11: calls go at most eight deep, and only the two methods that carry their depth call
 * themselves. Methods of one name are taken as one, which can only make the way longer. The first argument is the
 * source's path.
 */
public final class DepthTest {
    private static final int DEEPEST = 8;
    private static final Set<String> RECURSIVE = Set.of("mixFrom", "partsFrom");
    private static final Map<String, Set<String>> CALLS = new TreeMap<>();

    public static void main(String[] args) throws Exception {
        readCalls(Path.of(args[0]));
        boolean holds = CALLS.size() > 38;
        for (String method : CALLS.keySet()) {
            List<String> way = longestWay(method, new HashSet<>());
            if (way.size() > DEEPEST) {
                System.out.println(way.size() + " deep: " + way);
                holds = false;
            }
            if (reaches(method, method, new HashSet<>()) != RECURSIVE.contains(method)) {
                System.out.println("calls itself, or should: " + method);
                holds = false;
            }
        }
        System.out.println(holds ? "calls go eight deep at most" : "calls go too deep");
        if (!holds) System.exit(1);
    }

    private static void readCalls(Path source) throws Exception {
        JavaCompiler compiler = ToolProvider.getSystemJavaCompiler();
        StandardJavaFileManager files = compiler.getStandardFileManager(null, null, null);
        JavacTask task = (JavacTask) compiler.getTask(null, files, null, null, null, files.getJavaFileObjects(source));
        for (CompilationUnitTree unit : task.parse()) {
            new Reader().scan(unit, null);
        }
    }

    private static final class Reader extends TreeScanner<Void, Void> {
        private String method = "";

        @Override
        public Void visitMethod(MethodTree node, Void nothing) {
            method = node.getName().toString();
            CALLS.computeIfAbsent(method, name -> new TreeSet<>());
            return super.visitMethod(node, nothing);
        }

        @Override
        public Void visitMethodInvocation(MethodInvocationTree node, Void nothing) {
            ExpressionTree called = node.getMethodSelect();
            String name = called instanceof IdentifierTree ? ((IdentifierTree) called).getName().toString()
                : ((MemberSelectTree) called).getIdentifier().toString();
            CALLS.computeIfAbsent(method, unused -> new TreeSet<>()).add(name);
            return super.visitMethodInvocation(node, nothing);
        }
    }

    /** What stands open at once; a method that calls itself counts once, the library's count, too. */
    private static List<String> longestWay(String method, Set<String> open) {
        List<String> best = new ArrayList<>();
        open.add(method);
        for (String called : CALLS.getOrDefault(method, Set.of())) {
            if (open.contains(called)) continue;
            List<String> way = longestWay(called, open);
            if (way.size() > best.size()) best = way;
        }
        open.remove(method);
        best.add(0, method);
        return best;
    }

    private static boolean reaches(String from, String goal, Set<String> seen) {
        for (String called : CALLS.getOrDefault(from, Set.of())) {
            if (called.equals(goal) || seen.add(called) && reaches(called, goal, seen)) return true;
        }
        return false;
    }
}
