import java.io.File;
import java.io.IOException;
import java.lang.reflect.Method;
import java.lang.reflect.Modifier;
import java.net.URL;
import java.net.URLClassLoader;
import java.nio.file.Files;
import java.nio.file.Path;
import java.util.ArrayList;
import java.util.List;
import java.util.Set;
import java.util.TreeSet;
import java.util.regex.Matcher;
import java.util.regex.Pattern;
import java.util.stream.Stream;
import javax.tools.ToolProvider;

/** What README.md says is so: its calls compile and answer as it shows them; its tables and commands are true. */
public final class ReadmeTest {
    private static final Path OUT = Path.of("build/readme");
    private static final Pattern BLOCK = Pattern.compile("(?ms)^```java\n(.*?)^```$");
    private static final Pattern NEW = Pattern.compile("MagnetRows x = new MagnetRows\\(\\);");
    private static final Pattern CALL = Pattern.compile("(x\\.(\\w+)\\([^()]*\\)); +// ([-\\w.]+)(: .+)?");
    private static final Pattern REFUSAL = Pattern.compile("(?m)^\\| `([A-Z]+)` \\| (-\\d+) \\|");
    private static final Pattern TEST = Pattern.compile("`(\\w+Test)`");
    private static final Check check = new Check();

    public static void main(String[] args) throws IOException, ReflectiveOperationException {
        String readme = Files.readString(Path.of("README.md"));
        askCalls(readme);
        askRefusals(readme);
        askTests(readme);
        check.end();
    }

    /** The calls become a program of their own, so that what is shown is Java, too, and not only read by this test. */
    private static void askCalls(String readme) throws IOException, ReflectiveOperationException {
        List<String> calls = new ArrayList<>();
        Set<String> shown = new TreeSet<>();
        StringBuilder program = new StringBuilder("public final class Shown { public static long[] answers() {\n"
            + "long[] all = new long[4000]; int at = 0;\n");
        Matcher blocks = BLOCK.matcher(readme);
        while (blocks.find()) {
            program.append("{\n");
            for (String line : blocks.group(1).split("\n")) {
                Matcher call = CALL.matcher(line);
                if (call.matches()) {
                    calls.add(call.group(1));
                    shown.add(call.group(2));
                    program.append("all[at++] = ").append(call.group(1)).append(";\nall[at++] = ").append(call.group(3))
                        .append(";\n");
                } else {
                    check.same("is it a call with its answer: " + line, "" + NEW.matcher(line).matches(), "true");
                    program.append(line).append('\n');
                }
            }
            program.append("}\n");
        }
        program.append("return all; } }\n");
        check.same("calls shown", shown.toString(), face().toString());
        long[] answers = run(program.toString());
        for (int i = 0; i < calls.size(); i++) {
            check.due("README.md shows " + calls.get(i) + ": the program", answers[2 * i], answers[2 * i + 1]);
        }
    }

    private static Set<String> face() {
        Set<String> names = new TreeSet<>();
        for (Method method : MagnetRows.class.getDeclaredMethods()) {
            if (Modifier.isPublic(method.getModifiers())) {
                names.add(method.getName());
            }
        }
        return names;
    }

    private static long[] run(String program) throws IOException, ReflectiveOperationException {
        Files.createDirectories(OUT);
        Path source = OUT.resolve("Shown.java");
        Files.writeString(source, program);
        String classes = System.getProperty("java.class.path");
        int failed = ToolProvider.getSystemJavaCompiler().run(null, null, null,
            "-cp", classes, "-d", OUT.toString(), source.toString());
        check.due("to compile what README.md shows", failed, 0);
        URL[] place = {OUT.toUri().toURL()};
        try (URLClassLoader loader = new URLClassLoader(place, ReadmeTest.class.getClassLoader())) {
            return (long[]) loader.loadClass("Shown").getMethod("answers").invoke(null);
        }
    }

    private static void askRefusals(String readme) throws ReflectiveOperationException {
        Set<String> told = new TreeSet<>();
        Matcher rows = REFUSAL.matcher(readme);
        while (rows.find()) {
            told.add(rows.group(1));
            long is = MagnetRows.class.getField(rows.group(1)).getLong(null);
            check.due("the constant " + rows.group(1), is, Long.parseLong(rows.group(2)));
        }
        check.same("refusals told", told.toString(), "[FULL, LOST, OUTSIDE, SPENT, STATE, UNKNOWN]");
    }

    private static void askTests(String readme) throws IOException {
        Set<String> told = new TreeSet<>();
        Matcher names = TEST.matcher(readme);
        while (names.find()) {
            told.add(names.group(1));
        }
        Set<String> there = new TreeSet<>();
        try (Stream<Path> files = Files.list(Path.of("src/test/java"))) {
            files.map(file -> file.getFileName().toString()).filter(name -> name.endsWith("Test.java"))
                .forEach(name -> there.add(name.substring(0, name.length() - ".java".length())));
        }
        check.same("tests told", told.toString(), there.toString());
        check.same("the command for the tests is told", "" + readme.contains("```sh\n.ci/run\n```"), "true");
        check.same("it can be run", "" + new File(".ci/run").canExecute(), "true");
    }
}
