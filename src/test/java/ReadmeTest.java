import java.io.IOException;
import java.lang.reflect.Method;
import java.lang.reflect.Modifier;
import java.net.URL;
import java.net.URLClassLoader;
import java.nio.file.Files;
import java.nio.file.Path;
import java.util.ArrayList;
import java.util.List;
import java.util.regex.Matcher;
import java.util.regex.Pattern;
import java.util.stream.Stream;
import javax.tools.ToolProvider;

/** What README.md says by way of example is what the class answers. The argument is the path of the class's source. */
public final class ReadmeTest {
    private static final int CALLS_OF_AN_OBJECT = 512;
    private static final Pattern BLOCK = Pattern.compile("(?ms)^```java\n(.*?)^```$");
    private static final Pattern EXAMPLE = Pattern.compile("(king\\.(\\w+)\\(.*\\)); +// ([^:]+): \\S.*");
    private static final Pattern TYPED = Pattern.compile("for \\(char b : \"(.*)\"\\.toCharArray\\(\\)\\) \\{");
    private static final Pattern LOOP = Pattern.compile("for \\(int k = 0; k < (\\d+); k\\+\\+\\) \\{");
    private static final Check CHECK = new Check();

    public static void main(String[] args) throws IOException, ReflectiveOperationException {
        Path root = Path.of(args[0]).toAbsolutePath().getParent().resolve("../../..").normalize();
        String page = Files.readString(root.resolve("README.md"));
        List<String> lines = linesOfJava(page);
        everyLineIsAsked(lines);
        everyCallIsShown(lines);
        everyTestIsNamed(page, root);
        Path folder = Files.createTempDirectory("readme");
        try {
            ask(lines, folder);
        } finally {
            remove(folder);
        }
        CHECK.end("ReadmeTest");
    }

    private static List<String> linesOfJava(String page) {
        List<String> lines = new ArrayList<>();
        Matcher m = BLOCK.matcher(page);
        while (m.find()) {
            m.group(1).lines().forEach(lines::add);
        }
        return lines;
    }

    /** Only calls inside a loop may stand without an answer. */
    private static void everyLineIsAsked(List<String> lines) {
        int calls = 0;
        for (String line : lines) {
            calls += callsBy(line);
            if (line.startsWith("king.")) {
                CHECK.holds("README has an answer behind " + line, EXAMPLE.matcher(line).matches());
            }
        }
        CHECK.holds("README asks an object for some calls, 512 at most: " + calls, calls > 0 && calls <= CALLS_OF_AN_OBJECT);
    }

    /** A loop has one call inside, which is counted with its first line. */
    private static int callsBy(String line) {
        Matcher typed = TYPED.matcher(line);
        if (typed.matches()) {
            return typed.group(1).length();
        }
        Matcher loop = LOOP.matcher(line);
        if (loop.matches()) {
            return Integer.parseInt(loop.group(1));
        }
        return line.startsWith("king.") ? 1 : 0;
    }

    private static void everyCallIsShown(List<String> lines) {
        List<String> shown = new ArrayList<>();
        for (String line : lines) {
            Matcher m = EXAMPLE.matcher(line);
            if (m.matches()) {
                shown.add(m.group(2));
            }
        }
        for (Method method : KingsYear.class.getDeclaredMethods()) {
            if (Modifier.isPublic(method.getModifiers())) {
                CHECK.holds("README shows " + method.getName(), shown.contains(method.getName()));
            }
        }
    }

    private static void everyTestIsNamed(String page, Path root) throws IOException {
        try (Stream<Path> files = Files.list(root.resolve("src/test/java"))) {
            files.forEach(file -> {
                String name = file.getFileName().toString().replace(".java", "");
                CHECK.holds("README names " + name, page.contains("`" + name + "`"));
            });
        }
    }

    private static void ask(List<String> lines, Path folder) throws IOException, ReflectiveOperationException {
        Path source = folder.resolve("Story.java");
        Files.writeString(source, program(lines));
        int exit = ToolProvider.getSystemJavaCompiler().run(null, null, null,
            "--release", "17", "-cp", System.getProperty("java.class.path"), "-d", folder.toString(), source.toString());
        CHECK.due("README's lines compile, exit code", exit, 0);
        if (exit != 0) {
            return;
        }
        List<String> calls = new ArrayList<>();
        List<long[]> answers = new ArrayList<>();
        try (URLClassLoader loader = new URLClassLoader(new URL[] {folder.toUri().toURL()})) {
            loader.loadClass("Story").getMethod("tell", List.class, List.class).invoke(null, calls, answers);
        }
        for (int k = 0; k < calls.size(); k++) {
            CHECK.due("README: " + calls.get(k), answers.get(k)[0], answers.get(k)[1]);
        }
    }

    /** A class that runs the lines, and adds each call, its answer and what README says it is. */
    private static String program(List<String> lines) {
        StringBuilder s = new StringBuilder("import java.util.List;\npublic final class Story {\n");
        for (String name : List.of("NONE", "BAD", "NOT", "FULL")) {
            s.append("private static final int ").append(name).append(" = KingsYear.").append(name).append(";\n");
        }
        s.append("public static void tell(List<String> calls, List<long[]> answers) {\n");
        for (String line : lines) {
            Matcher m = EXAMPLE.matcher(line);
            if (m.matches()) {
                s.append("calls.add(\"").append(m.group(1)).append("\"); answers.add(new long[] {");
                s.append(m.group(1)).append(", ").append(m.group(3)).append("});\n");
            } else {
                s.append(line).append('\n');
            }
        }
        return s.append("}\n}\n").toString();
    }

    private static void remove(Path folder) throws IOException {
        try (Stream<Path> files = Files.list(folder)) {
            for (Path file : files.toList()) {
                Files.delete(file);
            }
        }
        Files.delete(folder);
    }
}
