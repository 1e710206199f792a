import java.io.IOException;
import java.lang.reflect.Field;
import java.lang.reflect.Method;
import java.lang.reflect.Modifier;
import java.net.URL;
import java.net.URLClassLoader;
import java.nio.file.Files;
import java.nio.file.Path;
import java.util.ArrayList;
import java.util.List;
import java.util.Set;
import java.util.TreeSet;
import java.util.regex.Matcher;
import java.util.regex.Pattern;
import javax.tools.ToolProvider;

// README.md tells the truth: its examples are compiled and give the answers that stand behind
// them, and its tables have every call, constant and kind of commit. It is looked for where
// .ci/run starts the tests.
public final class ReadmeTests {
    private static final Pattern EXAMPLE = Pattern.compile("```java\n(.*?)```", Pattern.DOTALL);
    // A statement with or without a variable, and the answer with or without words behind it.
    private static final Pattern STATEMENT = Pattern.compile("(?:int (\\w+) = )?(x\\.\\w+\\(.*\\)); *// (-?\\w+)(?:: .*)?");
    private static final Pattern CALL_ROW = Pattern.compile("(?m)^\\| `(\\w+)\\(([\\w, ]*)\\)` \\|.*\\|$");
    private static final Pattern CONSTANT = Pattern.compile("`([A-Z]+)` (?:is )?(-\\d+)");
    private static final Pattern KIND_ROW = Pattern.compile("(?m)^\\| (\\d) \\|.*\\| (\\w+) \\|$");
    private static final int LEAST_EXAMPLES = 3;
    private static final int KINDS = 6;

    private static int wrong = 0;

    // The examples' own code calls this, from a class of its own.
    public static void due(String call, int got, int want) {
        same(call, Integer.toString(got), Integer.toString(want));
    }

    private static void same(String what, Object got, Object want) {
        if (!got.equals(want)) {
            wrong++;
            System.out.println("README.md: " + what + ": found " + got + ", due is " + want);
        }
    }

    private static String answer(String word) {
        return Character.isLetter(word.charAt(0)) ? "VolumeCommit." + word : word;
    }

    // A line that is no call with an answer has to be the making of the object: an example
    // must not have calls that nothing looks at.
    private static String checked(String line) {
        Matcher m = STATEMENT.matcher(line);
        if (!m.matches()) {
            same("a line of an example", line, "VolumeCommit x = new VolumeCommit();");
            return line;
        }
        String kept = m.group(1) == null ? "" : "int " + m.group(1) + " = got; ";
        String got = "got = " + m.group(2) + "; " + kept;
        return got + "ReadmeTests.due(\"" + m.group(2) + "\", got, " + answer(m.group(3)) + ");";
    }

    private static String program(String name, String example) {
        StringBuilder text = new StringBuilder("public final class " + name + " { public static void run() { int got;\n");
        for (String line : example.split("\n")) {
            text.append(checked(line.trim())).append('\n');
        }
        return text.append("} }\n").toString();
    }

    private static void runExample(Path dir, String name, String example) throws IOException, ReflectiveOperationException {
        Path source = dir.resolve(name + ".java");
        Path made = dir.resolve(name + ".class");
        Files.writeString(source, program(name, example));
        int compiled = ToolProvider.getSystemJavaCompiler().run(null, null, null,
            "-cp", System.getProperty("java.class.path"), "-d", dir.toString(), source.toString());
        same(name + " compiles with", compiled, 0);
        if (compiled == 0) {
            try (URLClassLoader loader = new URLClassLoader(new URL[] {dir.toUri().toURL()})) {
                loader.loadClass(name).getMethod("run").invoke(null);
            }
        }
        Files.deleteIfExists(source);
        Files.deleteIfExists(made);
    }

    private static void examples(String readme) throws IOException, ReflectiveOperationException {
        List<String> found = new ArrayList<>();
        Matcher m = EXAMPLE.matcher(readme);
        while (m.find()) {
            found.add(m.group(1));
        }
        same("three examples or more", found.size() >= LEAST_EXAMPLES, true);
        Path dir = Files.createTempDirectory("readme");
        for (int i = 0; i < found.size(); i++) {
            runExample(dir, "Example" + (i + 1), found.get(i));
        }
        Files.delete(dir);
    }

    private static void calls(String readme) {
        Set<String> told = new TreeSet<>();
        Matcher m = CALL_ROW.matcher(readme);
        while (m.find()) {
            told.add(m.group(1) + " of " + (m.group(2).isEmpty() ? 0 : m.group(2).split(",").length));
        }
        Set<String> due = new TreeSet<>();
        for (Method method : VolumeCommit.class.getDeclaredMethods()) {
            if (Modifier.isPublic(method.getModifiers())) {
                due.add(method.getName() + " of " + method.getParameterCount());
            }
        }
        same("the calls", told, due);
    }

    private static void constants(String readme) throws IllegalAccessException {
        Set<String> told = new TreeSet<>();
        Matcher m = CONSTANT.matcher(readme);
        while (m.find()) {
            told.add(m.group(1) + " " + m.group(2));
        }
        Set<String> due = new TreeSet<>();
        for (Field field : VolumeCommit.class.getDeclaredFields()) {
            if (Modifier.isPublic(field.getModifiers())) {
                due.add(field.getName() + " " + field.getInt(null));
            }
        }
        same("the constants", told, due);
    }

    // The store that the commit names is one in which the transaction has written.
    private static int commitOfKind(int kind) {
        VolumeCommit x = new VolumeCommit();
        int t = x.begin();
        x.put(t, 0, 1);
        x.put(t, 32, 1);
        return x.commit(t, kind, 0, 0);
    }

    private static void kinds(String readme) {
        int kind = 0;
        Matcher m = KIND_ROW.matcher(readme);
        while (m.find()) {
            same("a kind of commit", m.group(1), Integer.toString(kind));
            due("commit of kind " + kind, Call.number(m.group(2)), commitOfKind(kind));
            kind++;
        }
        same("the kinds of commit", kind, KINDS);
    }

    public static void main(String[] args) throws IOException, ReflectiveOperationException {
        String readme = Files.readString(Path.of("README.md"));
        examples(readme);
        calls(readme);
        constants(readme);
        kinds(readme);
        if (wrong > 0) {
            System.exit(1);
        }
    }
}
