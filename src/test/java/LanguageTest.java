import com.sun.source.tree.ClassTree;
import com.sun.source.tree.CompilationUnitTree;
import com.sun.source.tree.ImportTree;
import com.sun.source.tree.Tree;
import com.sun.source.util.JavacTask;
import com.sun.source.util.TreePath;
import com.sun.source.util.Trees;
import java.io.IOException;
import java.nio.file.Path;
import java.util.ArrayList;
import java.util.HashSet;
import java.util.LinkedHashMap;
import java.util.List;
import java.util.Map;
import java.util.Set;
import javax.lang.model.element.Modifier;
import javax.tools.JavaCompiler;
import javax.tools.StandardJavaFileManager;
import javax.tools.ToolProvider;

/** The class keeps to those rules of ../shared/LANGUAGE.md that can be seen in its text. */
public final class LanguageTest {
    private static final Path SOURCE = Path.of("src/main/java/CuckooDebt.java");
    private static final Set<String> IMPORTS = Set.of("java.util.Arrays", "java.util.ArrayList", "java.util.List",
        "java.util.Iterator", "java.util.NoSuchElementException");
    private static final int MOST_CLASSES = 12;
    private static final int MOST_DEEP = 8;

    private LanguageTest() {
    }

    public static void main(String[] args) throws IOException {
        Path source = args.length > 0 ? Path.of(args[0]) : SOURCE;
        JavaCompiler compiler = ToolProvider.getSystemJavaCompiler();
        try (StandardJavaFileManager files = compiler.getStandardFileManager(null, null, null)) {
            JavacTask task = (JavacTask) compiler.getTask(null, files, null, List.of("-proc:none"), null,
                files.getJavaFileObjects(source));
            CompilationUnitTree unit = task.parse().iterator().next();
            task.analyze();
            check(unit, Trees.instance(task));
        }
        Check.end("LanguageTest");
    }

    private static void check(CompilationUnitTree unit, Trees trees) {
        Check.due("a package line", unit.getPackage() == null, true);
        Check.due("one class in the file", unit.getTypeDecls().size(), 1);
        for (ImportTree line : unit.getImports()) {
            String name = line.getQualifiedIdentifier().toString();
            Check.due("import " + name + " is on the list", IMPORTS.contains(name) && !line.isStatic(), true);
        }
        LanguageScanner scanner = new LanguageScanner(unit, trees);
        scanner.scan(new TreePath(unit), null);
        Check.due("some twelve classes", scanner.classes <= MOST_CLASSES, true);
        checkInside((ClassTree) unit.getTypeDecls().get(0));
        checkNames(scanner);
        checkCalls(scanner.calls);
    }

    /** Rule 1: the classes inside are static, and shown to nobody outside. */
    private static void checkInside(ClassTree face) {
        for (Tree member : face.getMembers()) {
            if (member.getKind() == Tree.Kind.CLASS) {
                Set<Modifier> flags = ((ClassTree) member).getModifiers().getFlags();
                boolean isHidden = !flags.contains(Modifier.PUBLIC) && !flags.contains(Modifier.PROTECTED);
                Check.due(((ClassTree) member).getSimpleName() + " is hidden and static", isHidden && flags.contains(Modifier.STATIC), true);
            }
        }
    }

    private static void checkNames(LanguageScanner scanner) {
        for (String name : scanner.privateNames) {
            Check.due("a private method bears the name of a public one: " + name, scanner.publicNames.contains(name), false);
        }
    }

    /** Rules 8 and 11: how deep calls go, and which methods may come to themselves again. */
    private static void checkCalls(Map<String, Set<String>> calls) {
        Set<String> recursive = new HashSet<>();
        for (String method : calls.keySet()) {
            if (reached(calls, method).contains(method)) {
                recursive.add(method);
            }
        }
        Check.due("what calls itself", recursive, Set.of("LawReader.readLevel", "LawReader.readPart", "Songs.singFrom"));
        Map<String, List<String>> deepest = new LinkedHashMap<>();
        for (String method : calls.keySet()) {
            List<String> path = deepest(calls, method, new ArrayList<>());
            Check.due("calls go eight deep at most: " + path, path.size() <= MOST_DEEP, true);
            deepest.put(method, path);
        }
        Check.due("the calls are seen", deepest.get("CuckooDebt.played").size() > 4, true);
    }

    private static Set<String> reached(Map<String, Set<String>> calls, String from) {
        Set<String> all = new HashSet<>();
        List<String> open = new ArrayList<>(List.of(from));
        while (!open.isEmpty()) {
            for (String next : calls.getOrDefault(open.remove(open.size() - 1), Set.of())) {
                if (all.add(next)) {
                    open.add(next);
                }
            }
        }
        return all;
    }

    /** The longest way of calls from a method on, none of them twice. */
    private static List<String> deepest(Map<String, Set<String>> calls, String method, List<String> above) {
        List<String> here = new ArrayList<>(above);
        here.add(method);
        List<String> best = here;
        for (String next : calls.getOrDefault(method, Set.of())) {
            if (!here.contains(next)) {
                List<String> path = deepest(calls, next, here);
                best = path.size() > best.size() ? path : best;
            }
        }
        return best;
    }
}
