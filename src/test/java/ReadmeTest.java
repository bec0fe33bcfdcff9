import java.io.ByteArrayOutputStream;
import java.io.IOException;
import java.io.PrintStream;
import java.lang.reflect.Field;
import java.lang.reflect.Method;
import java.lang.reflect.Modifier;
import java.net.URL;
import java.net.URLClassLoader;
import java.nio.file.DirectoryStream;
import java.nio.file.Files;
import java.nio.file.Path;
import java.util.ArrayList;
import java.util.List;
import java.util.Set;
import java.util.TreeSet;
import java.util.regex.Matcher;
import java.util.regex.Pattern;
import javax.tools.ToolProvider;

/** What README.md says: its programs compile and answer so, and its tables leave nothing out. */
public final class ReadmeTest {
    private static final Answers ANSWERS = new Answers("ReadmeTest");
    private static final Pattern PROGRAM = Pattern.compile("(?s)```java\n(.*?)```");
    private static final Pattern NAME = Pattern.compile("public final class (\\w+)");
    private static final Pattern NUMBER = Pattern.compile("// (-?\\d+)(:.*)?$");
    private static final String PRINTS = "System.out.println(court.";

    public static void main(String[] args) throws IOException, ReflectiveOperationException {
        String readme = Files.readString(Path.of("README.md"));
        Path out = Files.createTempDirectory("readme");
        try {
            programs(readme, out);
        } finally {
            remove(out);
        }
        findings(readme);
        calls(readme);
        tests(readme);
        ANSWERS.end();
    }

    private static void holds(String what, boolean it) {
        ANSWERS.due(what, it ? 1 : 0, 1);
    }

    // ---- programs

    private static void programs(String readme, Path out) throws IOException, ReflectiveOperationException {
        Matcher program = PROGRAM.matcher(readme);
        Set<String> called = new TreeSet<>();
        while (program.find()) {
            String text = program.group(1);
            Matcher name = NAME.matcher(text);
            boolean named = name.find();
            holds("a program has a class with a name", named);
            if (named) {
                answersAsItSays(name.group(1), text, out);
            }
            Matcher call = Pattern.compile("court\\.(\\w+)\\(").matcher(text);
            while (call.find()) {
                called.add(call.group(1));
            }
        }
        holds("the programs use most calls: " + called, called.size() * 2 > callsOfFace().size());
    }

    private static void answersAsItSays(String name, String text, Path out)
            throws IOException, ReflectiveOperationException {
        Path file = out.resolve(name + ".java");
        Files.writeString(file, text);
        int exit = ToolProvider.getSystemJavaCompiler().run(null, null, null, "-Xlint:all", "-Werror",
                "-cp", System.getProperty("java.class.path"), "-d", out.toString(), file.toString());
        ANSWERS.due(name + " compiles: exit code", exit, 0);
        if (exit != 0) {
            return;
        }
        List<String> printed = printedBy(name, out);
        int at = 0;
        for (String line : text.split("\n")) {
            Matcher number = NUMBER.matcher(line);
            boolean says = number.find();
            boolean prints = line.contains(PRINTS);
            holds(name + ": a number is said just where one is printed: " + line.trim(), says == prints);
            if (says && at < printed.size()) {
                ANSWERS.due(name + ": " + line.trim(), Long.parseLong(printed.get(at)), Long.parseLong(number.group(1)));
                at++;
            }
        }
        ANSWERS.due(name + ": lines printed", printed.size(), at);
        holds(name + " prints something", at > 0);
    }

    private static List<String> printedBy(String name, Path out) throws IOException, ReflectiveOperationException {
        ByteArrayOutputStream bytes = new ByteArrayOutputStream();
        PrintStream before = System.out;
        try (URLClassLoader loader = new URLClassLoader(new URL[] {out.toUri().toURL()},
                ReadmeTest.class.getClassLoader())) {
            System.setOut(new PrintStream(bytes, true));
            loader.loadClass(name).getMethod("main", String[].class).invoke(null, (Object) new String[0]);
        } finally {
            System.setOut(before);
        }
        return bytes.toString().lines().toList();
    }

    private static void remove(Path directory) throws IOException {
        try (DirectoryStream<Path> files = Files.newDirectoryStream(directory)) {
            for (Path file : files) {
                Files.delete(file);
            }
        }
        Files.delete(directory);
    }

    // ---- tables

    private static void findings(String readme) throws IllegalAccessException {
        List<String> names = new ArrayList<>();
        for (Field f : Findings.class.getDeclaredFields()) {
            if (f.getInt(null) < 0) {
                names.add(f.getName());
                holds("README.md has " + f.getName(), readme.contains("| " + f.getName() + " | " + f.getInt(null) + " |"));
            }
        }
        ANSWERS.due("findings", names.size(), 13);
    }

    private static Set<String> callsOfFace() {
        Set<String> names = new TreeSet<>();
        for (Method m : ScreeCourt.class.getDeclaredMethods()) {
            if (Modifier.isPublic(m.getModifiers())) {
                names.add(m.getName());
            }
        }
        return names;
    }

    private static void calls(String readme) {
        int from = readme.indexOf("### All calls");
        int to = readme.indexOf("## Tests");
        holds("README.md has all calls, and then the tests", from >= 0 && to > from);
        if (from < 0 || to <= from) {
            return;
        }
        Set<String> got = new TreeSet<>();
        Matcher call = Pattern.compile("`(\\w+)`").matcher(readme.substring(from, to));
        while (call.find()) {
            got.add(call.group(1));
        }
        holds("the calls of README.md are those of the class: " + got, got.equals(callsOfFace()));
    }

    private static void tests(String readme) throws IOException {
        Set<String> due = new TreeSet<>();
        try (DirectoryStream<Path> files = Files.newDirectoryStream(Path.of("src/test/java"), "*Test.java")) {
            for (Path file : files) {
                due.add(file.getFileName().toString().replace(".java", ""));
            }
        }
        Set<String> got = new TreeSet<>();
        Matcher row = Pattern.compile("(?m)^\\| `(\\w+Test)` \\|").matcher(readme);
        while (row.find()) {
            got.add(row.group(1));
        }
        holds("the tests of README.md are those of the project: " + got + " and " + due, got.equals(due));
    }
}
