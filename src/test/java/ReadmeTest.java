import java.lang.reflect.InvocationTargetException;
import java.lang.reflect.Method;
import java.net.URL;
import java.net.URLClassLoader;
import java.nio.file.Files;
import java.nio.file.Path;
import java.util.ArrayList;
import java.util.List;
import java.util.Set;
import java.util.TreeSet;
import java.util.regex.Matcher;
import java.util.regex.Pattern;
import javax.tools.JavaCompiler;
import javax.tools.StandardJavaFileManager;
import javax.tools.ToolProvider;

/** What README.md shows of the class's use compiles, and answers as README.md says. */
public final class ReadmeTest {
    private static final Path PAGE = Path.of("README.md");
    private static final Path SOURCE = Path.of("src/main/java/CopyWhileRun.java");
    private static final Pattern BLOCK = Pattern.compile("(?s)```java\n(.*?)```");
    private static final Pattern ANSWER = Pattern.compile("(\\w+\\.\\w+\\(.*\\));\\s*// (-?\\d+)(?!\\d).*");
    private static final Pattern CALL = Pattern.compile("\\w\\.(\\w+)\\(.*");
    private static int wrong = 0;

    /** Called by the program that is made of the page. */
    public static void due(String call, long got, long want) {
        mustHold(got == want, call + " answered " + got + ", README.md says " + want);
    }

    private static void mustHold(boolean holds, String what) {
        if (!holds) {
            wrong++;
            System.out.println(what);
        }
    }

    public static void main(String[] args) throws Exception {
        List<String> blocks = new ArrayList<>();
        Matcher matcher = BLOCK.matcher(Files.readString(PAGE));
        while (matcher.find()) {
            blocks.add(matcher.group(1));
        }
        mustHold(blocks.size() > 1, "blocks of Java read: " + blocks.size());
        Path directory = Files.createTempDirectory("readme");
        compile(directory, "AsShown", program("AsShown", blocks));
        List<String> asked = new ArrayList<>();
        Set<String> shown = new TreeSet<>();
        for (String block : blocks) {
            asked.add(ask(block, shown));
        }
        compile(directory, "Asked", program("Asked", asked));
        run(directory, "Asked");
        eachIsShown(shown);
        delete(directory);
        System.out.println(wrong == 0 ? "README.md answers as it says" : wrong + " do not hold");
        if (wrong != 0) {
            System.exit(1);
        }
    }

    /** The first block is a method, the others follow one another in main, as the page says. */
    private static String program(String name, List<String> blocks) {
        return "public final class " + name + " {\n" + blocks.get(0)
                + "public static void main(String[] args) {\n"
                + String.join("", blocks.subList(1, blocks.size())) + "}\n}\n";
    }

    /** Puts a question in place of each call that stands with its answer; the methods asked come into shown. */
    private static String ask(String block, Set<String> shown) {
        StringBuilder text = new StringBuilder();
        for (String line : block.split("\n")) {
            Matcher matcher = ANSWER.matcher(line);
            if (matcher.matches()) {
                String call = matcher.group(1);
                text.append("ReadmeTest.due(\"").append(call).append("\", ").append(call).append(", ")
                        .append(matcher.group(2)).append("L);\n");
                Matcher name = CALL.matcher(call);
                mustHold(name.matches(), "no call of an object: " + line);
                shown.add(name.group(1));
            } else {
                mustHold(!CALL.matcher(line).matches(), "a call without its answer: " + line);
                text.append(line).append('\n');
            }
        }
        return text.toString();
    }

    private static void compile(Path directory, String name, String program) throws Exception {
        Path file = directory.resolve(name + ".java");
        Files.writeString(file, program);
        JavaCompiler compiler = ToolProvider.getSystemJavaCompiler();
        try (StandardJavaFileManager files = compiler.getStandardFileManager(null, null, null)) {
            // This test's own classes are there by the class path that it runs with.
            List<String> options = List.of("-d", directory.toString(), "-implicit:none",
                    "-classpath", System.getProperty("java.class.path"));
            boolean right = compiler.getTask(null, files, null, options, null,
                    files.getJavaFileObjects(file)).call();
            mustHold(right, "what README.md shows does not compile: " + name);
        }
    }

    private static void run(Path directory, String name) throws Exception {
        if (wrong != 0) {
            return;
        }
        try (URLClassLoader loader = new URLClassLoader(new URL[] {directory.toUri().toURL()},
                ReadmeTest.class.getClassLoader())) {
            loader.loadClass(name).getMethod("main", String[].class).invoke(null, (Object) new String[0]);
        } catch (InvocationTargetException e) {
            mustHold(false, "what README.md shows throws: " + e.getCause());
        }
    }

    private static void eachIsShown(Set<String> shown) {
        for (Method method : CopyWhileRun.class.getMethods()) {
            boolean own = method.getDeclaringClass() == CopyWhileRun.class;
            mustHold(!own || shown.contains(method.getName()), "README.md shows no answer of " + method.getName());
        }
    }

    private static void delete(Path directory) throws Exception {
        try (var files = Files.list(directory)) {
            for (Path file : files.toList()) {
                Files.delete(file);
            }
        }
        Files.delete(directory);
    }
}
