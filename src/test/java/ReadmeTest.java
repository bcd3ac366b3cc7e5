import java.io.IOException;
import java.lang.reflect.Method;
import java.lang.reflect.Modifier;
import java.net.URL;
import java.net.URLClassLoader;
import java.nio.file.Files;
import java.nio.file.Path;
import java.util.ArrayList;
import java.util.List;
import java.util.regex.Matcher;
import java.util.regex.Pattern;
import javax.tools.ToolProvider;

/** The calls of README.md answer what stands behind them there. */
public final class ReadmeTest {
    private static final Pattern CALL = Pattern.compile("(x\\.(\\w+)\\(.*\\));\\s+// (-?\\d+): .*");
    private static final Pattern CONSTANT = Pattern.compile("\\| `([A-Z]+)` (-\\d+) \\|.*");

    private final List<String> calls = new ArrayList<>();
    private final List<String> names = new ArrayList<>();
    private final List<Long> wanted = new ArrayList<>();

    private ReadmeTest() {
    }

    public static void main(String[] args) throws IOException, ReflectiveOperationException {
        List<String> page = Files.readAllLines(Path.of("README.md"));
        constants(page);
        ReadmeTest test = new ReadmeTest();
        test.answers(test.program(page));
        test.everyCall();
        Due.finish("ReadmeTest");
    }

    private static void constants(List<String> page) throws ReflectiveOperationException {
        int told = 0;
        for (String line : page) {
            Matcher row = CONSTANT.matcher(line);
            if (row.matches()) {
                int value = FarthestPays.class.getField(row.group(1)).getInt(null);
                Due.due(row.group(1), Integer.parseInt(row.group(2)), value);
                told++;
            }
        }
        Due.due("constants that are told", told, FarthestPays.class.getFields().length);
    }

    /** A class whose calls are those of the page, and the answers that are due. */
    private String program(List<String> page) {
        StringBuilder java = new StringBuilder();
        java.append("public final class Page {\npublic static void ask(java.util.List<Long> answers) {\n");
        boolean inside = false;
        for (String line : page) {
            if (line.startsWith("```")) {
                inside = line.equals("```java");
            } else if (inside) {
                java.append(statement(line)).append('\n');
            }
        }
        return java.append("}\n}\n").toString();
    }

    private String statement(String line) {
        Matcher call = CALL.matcher(line);
        if (!call.matches()) {
            Due.due("an answer stands behind " + line, line.startsWith("x.") ? 0 : 1, 1);
            return line;
        }
        calls.add(call.group(1));
        names.add(call.group(2));
        wanted.add(Long.parseLong(call.group(3)));
        return "answers.add((long) " + call.group(1) + ");";
    }

    private void answers(String program) throws IOException, ReflectiveOperationException {
        List<Long> got = new ArrayList<>();
        Path place = Files.createTempDirectory("page");
        Path source = Files.writeString(place.resolve("Page.java"), program);
        Path compiled = place.resolve("Page.class");
        try (URLClassLoader loader = new URLClassLoader(new URL[] {place.toUri().toURL()})) {
            String path = System.getProperty("java.class.path");
            int failed = ToolProvider.getSystemJavaCompiler().run(null, null, null, "-cp", path, source.toString());
            Due.due("the page compiles", failed, 0);
            if (failed == 0) {
                loader.loadClass("Page").getMethod("ask", List.class).invoke(null, got);
            }
        } finally {
            Files.deleteIfExists(compiled);
            Files.delete(source);
            Files.delete(place);
        }
        Due.due("answers of the page", got.size(), calls.size());
        for (int i = 0; i < got.size(); i++) {
            Due.due("README: " + calls.get(i), got.get(i), wanted.get(i));
        }
    }

    private void everyCall() {
        for (Method method : FarthestPays.class.getDeclaredMethods()) {
            if (Modifier.isPublic(method.getModifiers())) {
                Due.due(method.getName() + " is shown", names.contains(method.getName()) ? 1 : 0, 1);
            }
        }
    }
}
