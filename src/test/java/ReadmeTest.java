import java.io.IOException;
import java.lang.reflect.Method;
import java.lang.reflect.Modifier;
import java.net.URL;
import java.net.URLClassLoader;
import java.nio.file.Files;
import java.nio.file.Path;
import java.util.ArrayList;
import java.util.List;
import java.util.regex.Matcher;
import java.util.regex.Pattern;
import java.util.stream.Stream;
import javax.tools.ToolProvider;

/** What README.md shows compiles, and each call there answers what stands behind it. */
public final class ReadmeTest {
    private static final Path README = Path.of("README.md");
    private static final Pattern BLOCK = Pattern.compile("```java\n(.*?)```", Pattern.DOTALL);
    private static final Pattern CALL = Pattern.compile("(x\\.(\\w+)\\(.*?\\)); *// (-?\\d+|true|false|throws)\\b.*");
    private static final String NAME = "ReadmeExample";

    private ReadmeTest() {
    }

    public static void main(String[] args) throws IOException, ReflectiveOperationException {
        String page = Files.readString(README);
        List<String> calls = new ArrayList<>();
        List<String> due = new ArrayList<>();
        StringBuilder code = new StringBuilder("public final class " + NAME + " {\n"
            + "public static java.util.List<String> answers() {\njava.util.List<String> answers = new java.util.ArrayList<>();\n");
        for (Matcher block = BLOCK.matcher(page); block.find();) {
            for (String line : block.group(1).split("\n")) {
                Matcher call = CALL.matcher(line);
                if (call.matches()) {
                    calls.add(call.group(1));
                    due.add(call.group(3));
                    code.append("try { answers.add(String.valueOf(").append(call.group(1)).append(")); }\n")
                        .append("catch (java.util.NoSuchElementException e) { answers.add(\"throws\"); }\n");
                } else {
                    code.append(line).append('\n');
                }
            }
        }
        code.append("return answers;\n}\n}\n");
        List<?> answers = answersOf(code.toString());
        Check.due("how many calls", answers.size(), due.size());
        for (int i = 0; i < Math.min(answers.size(), due.size()); i++) {
            Check.due(README + ", " + calls.get(i), answers.get(i), due.get(i));
        }
        checkFace(page, code.toString());
        Check.end("ReadmeTest");
    }

    private static List<?> answersOf(String code) throws IOException, ReflectiveOperationException {
        Path room = Files.createTempDirectory("readme");
        try {
            Path source = Files.writeString(room.resolve(NAME + ".java"), code);
            int failed = ToolProvider.getSystemJavaCompiler().run(null, null, null, "-proc:none", "-cp",
                System.getProperty("java.class.path"), "-d", room.toString(), source.toString());
            Check.due("the examples compile", failed, 0);
            if (failed != 0) {
                return List.of();
            }
            try (URLClassLoader loader = new URLClassLoader(new URL[] {room.toUri().toURL()})) {
                return (List<?>) loader.loadClass(NAME).getMethod("answers").invoke(null);
            }
        } finally {
            try (Stream<Path> files = Files.list(room)) {
                for (Path file : files.toList()) {
                    Files.delete(file);
                }
            }
            Files.delete(room);
        }
    }

    /** Each call of the face is shown with an answer, and has a line of its own in the table. */
    private static void checkFace(String page, String code) {
        for (Method method : CuckooDebt.class.getDeclaredMethods()) {
            if (Modifier.isPublic(method.getModifiers())) {
                Check.due(method.getName() + " is shown", code.contains("x." + method.getName() + "("), true);
                Check.due(method.getName() + " is in the table", page.contains("\n| `" + method.getName() + "("), true);
            }
        }
    }
}
