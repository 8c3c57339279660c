import java.lang.reflect.Constructor;
import java.lang.reflect.Field;
import java.lang.reflect.Method;
import java.lang.reflect.Modifier;
import java.nio.file.Files;
import java.nio.file.Path;
import java.util.ArrayList;
import java.util.Arrays;
import java.util.List;
import java.util.Set;
import java.util.TreeSet;
import java.util.regex.Matcher;
import java.util.regex.Pattern;

/** The public face of the document, and the rules of LANGUAGE.md that can be seen without reading. */
public final class FaceTest {
    private static final Path SOURCE = Path.of("src/main/java/CopyWhileRun.java");
    private static final Path DOCUMENT = Path.of("../shared/DOC.md");
    private static int wrong = 0;

    private static void mustHold(boolean holds, String what) {
        if (!holds) {
            wrong++;
            System.out.println(what);
        }
    }

    public static void main(String[] args) throws Exception {
        face();
        visibility();
        classes();
        words();
        methods();
        noObjectsByCalls();
        System.out.println(wrong == 0 ? "the face and the rules hold" : wrong + " do not hold");
        if (wrong != 0) {
            System.exit(1);
        }
    }

    private static void face() throws Exception {
        Set<String> told = new TreeSet<>();
        Matcher matcher = Pattern.compile("    public (int|long) (\\w+)\\(([^)]*)\\);")
                .matcher(Files.readString(DOCUMENT));
        while (matcher.find()) {
            told.add(matcher.group(1) + " " + matcher.group(2) + " "
                    + matcher.group(3).replaceAll(" \\w+(, |$)", " "));
        }
        Set<String> there = new TreeSet<>();
        for (Method method : CopyWhileRun.class.getDeclaredMethods()) {
            if (Modifier.isPublic(method.getModifiers())) {
                StringBuilder types = new StringBuilder();
                for (Class<?> type : method.getParameterTypes()) {
                    types.append(type).append(' ');
                }
                there.add(method.getReturnType() + " " + method.getName() + " " + types);
            }
        }
        mustHold(told.size() == 62, "the document tells 62 methods, read were " + told.size());
        mustHold(told.equals(there), "told are " + told + ", there are " + there);
        mustHold(CopyWhileRun.NONE == -1, "NONE is -1");
        mustHold(Modifier.isFinal(CopyWhileRun.class.getModifiers()), "the class is final");
        Constructor<?>[] made = CopyWhileRun.class.getDeclaredConstructors();
        mustHold(made.length == 1 && made[0].getParameterCount() == 0
                && Modifier.isPublic(made[0].getModifiers()), "one public constructor");
    }

    private static void visibility() {
        Set<String> faced = new TreeSet<>();
        for (Method method : CopyWhileRun.class.getMethods()) {
            faced.add(method.getName());
        }
        for (Method method : CopyWhileRun.class.getDeclaredMethods()) {
            int modifiers = method.getModifiers();
            mustHold(Modifier.isPublic(modifiers) || Modifier.isPrivate(modifiers),
                    "neither public nor private: " + method);
            mustHold(Modifier.isPublic(modifiers) || !faced.contains(method.getName()),
                    "a private method with a public one's name: " + method);
        }
        for (Field field : CopyWhileRun.class.getDeclaredFields()) {
            mustHold(Modifier.isPrivate(field.getModifiers()) || field.getName().equals("NONE"),
                    "a field that is seen: " + field);
        }
        for (Class<?> inside : CopyWhileRun.class.getDeclaredClasses()) {
            mustHold(Modifier.isStatic(inside.getModifiers()), "not static: " + inside);
            for (Method method : inside.getDeclaredMethods()) {
                mustHold(!faced.contains(method.getName()), "a public one's name inside: " + method);
            }
        }
    }

    private static void classes() {
        List<Class<?>> all = new ArrayList<>(Arrays.asList(CopyWhileRun.class.getDeclaredClasses()));
        mustHold(all.size() < 12, "at most twelve classes");
        all.add(CopyWhileRun.class);
        for (Class<?> one : all) {
            int fields = 0;
            for (Field field : one.getDeclaredFields()) {
                int modifiers = field.getModifiers();
                if (Modifier.isStatic(modifiers)) {
                    mustHold(Modifier.isFinal(modifiers), "static and not final: " + field);
                } else {
                    fields++;
                }
            }
            mustHold(fields <= 20, "more than twenty fields: " + one);
            for (Method method : one.getDeclaredMethods()) {
                mustHold(method.getParameterCount() <= 7, "more than seven parameters: " + method);
            }
        }
    }

    /** The source without comments, texts and signs. */
    private static String code() throws Exception {
        String source = Files.readString(SOURCE);
        source = source.replaceAll("(?s)/\\*.*?\\*/", "");
        source = source.replaceAll("\"[^\"\n]*\"", "\"\"").replaceAll("'\\\\?.'", "' '");
        return source.replaceAll("//[^\n]*", "");
    }

    private static void words() throws Exception {
        String code = code();
        Matcher matcher = Pattern.compile("[A-Za-z_]\\w*").matcher(code);
        Set<String> banned = Set.of("throw", "throws", "try", "catch", "finally", "synchronized", "assert",
                "double", "float", "var", "package", "protected", "volatile", "native", "transient",
                "Object", "Exception", "Random", "Thread", "currentTimeMillis", "nanoTime");
        while (matcher.find()) {
            mustHold(!banned.contains(matcher.group()), "a word that is not allowed: " + matcher.group());
        }
        mustHold(!code.contains("->") && !code.contains("::"), "a lambda, a method reference");
        mustHold(!code.contains("Exact"), "a function whose name ends in Exact");
        matcher = Pattern.compile("import ([^;]*);").matcher(code);
        while (matcher.find()) {
            mustHold(matcher.group(1).equals("java.util.Arrays"), "an import: " + matcher.group(1));
        }
        matcher = Pattern.compile("(System|Arrays|Math|Integer|Long)\\.(\\w+)").matcher(code);
        Set<String> calls = Set.of("System.arraycopy", "Arrays.fill", "Math.min", "Math.max", "Math.abs",
                "Integer.bitCount", "Long.bitCount");
        while (matcher.find()) {
            mustHold(calls.contains(matcher.group()), "the library: " + matcher.group());
        }
        for (char sign : Files.readString(SOURCE).toCharArray()) {
            mustHold(sign < 128, "a sign above 127");
        }
    }

    private static void methods() throws Exception {
        int start = -1;
        String[] lines = Files.readString(SOURCE).split("\n");
        for (int i = 0; i < lines.length; i++) {
            if (lines[i].matches(" {4}( {4})?\\S.*\\) \\{") && !lines[i].contains(" if ")) {
                start = i;
            } else if (lines[i].matches(" {4}( {4})?\\}") && start >= 0) {
                mustHold(i - start < 60, "a method of more than sixty lines from line " + (start + 1));
                start = -1;
            }
        }
    }

    /** What a run makes is counted: all rows are made with the object, so no call makes one. */
    private static void noObjectsByCalls() throws Exception {
        for (String line : code().split("\n")) {
            boolean made = line.matches(".*\\bnew\\b.*");
            boolean field = line.matches(" {4}( {4})?(private )?final .* = new .*;");
            boolean constructor = line.matches(" {12}( {4})?(images|slots|made)\\[i\\] = new \\w+\\(\\);");
            mustHold(!made || field || constructor, "made by a call: " + line);
        }
    }
}
