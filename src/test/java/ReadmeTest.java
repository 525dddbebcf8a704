import java.io.IOException;
import java.lang.reflect.Method;
import java.net.URL;
import java.net.URLClassLoader;
import java.nio.file.Files;
import java.nio.file.Path;
import java.util.ArrayList;
import java.util.List;
import java.util.Set;
import java.util.TreeSet;
import java.util.regex.Matcher;
import java.util.regex.Pattern;
import java.util.stream.Stream;
import javax.tools.JavaCompiler;
import javax.tools.ToolProvider;

/** README.md is as it says: its calls are compiled and run as they stand there, and its command and its tests are there. */
public final class ReadmeTest {
    private static final Pattern CALL = Pattern.compile("((?:x\\.(\\w+)|tell)\\(.*\\)); *// (-?\\d+|NONE|true|false|throws \\w+)(?:: .*)?");
    private static final Pattern SILENT = Pattern.compile("(x\\.(\\w+)\\([^;]*\\));");

    private final Check check = new Check();
    private final List<String> helpers = new ArrayList<>();
    private final List<String> lines = new ArrayList<>();
    private final List<String> commands = new ArrayList<>();
    private final String readme;

    private ReadmeTest(String readme) {
        this.readme = readme;
    }

    public static void main(String[] args) throws Exception {
        ReadmeTest test = new ReadmeTest(Files.readString(Path.of("README.md")));
        test.split();
        test.everyCallIsShown();
        test.run(test.program());
        test.testsAreListed();
        test.commandIsThere();
        test.check.end();
    }

    private void holds(String what, boolean so) {
        check.same(what, 1, so ? 1 : 0);
    }

    /** The page's blocks by their kinds: a helper begins with static, all other Java is one run. */
    private void split() {
        Matcher block = Pattern.compile("(?s)```(\\w+)\n(.*?)```").matcher(readme);
        while (block.find()) {
            List<String> rows = List.of(block.group(2).split("\n"));
            if (block.group(1).equals("sh")) {
                commands.addAll(rows);
            } else if (block.group(2).startsWith("static ")) {
                helpers.addAll(rows);
            } else {
                lines.addAll(rows);
            }
        }
        holds("the page shows calls", lines.size() > 50);
    }

    private void everyCallIsShown() {
        Set<String> shown = new TreeSet<>();
        for (String line : lines) {
            Matcher call = Pattern.compile("x\\.(\\w+)\\(").matcher(line);
            if (call.lookingAt()) {
                shown.add(call.group(1));
            }
        }
        for (Method m : MudWalls.class.getDeclaredMethods()) {
            holds("the page shows " + m.getName(), !java.lang.reflect.Modifier.isPublic(m.getModifiers()) || shown.contains(m.getName()));
        }
    }

    private String program() {
        StringBuilder b = new StringBuilder("public final class ReadmeCalls {\n");
        for (String helper : helpers) {
            b.append(helper).append('\n');
        }
        b.append("public static java.util.List<String> answers() {\nvar all = new java.util.ArrayList<String>();\n");
        for (String line : lines) {
            Matcher call = CALL.matcher(line);
            Matcher silent = SILENT.matcher(line);
            if (call.matches()) {
                b.append("try { all.add(String.valueOf(").append(call.group(1)).append(")); } ")
                    .append("catch (RuntimeException e) { all.add(\"throws \" + e.getClass().getSimpleName()); }\n");
            } else if (silent.matches() || line.equals("MudWalls x = new MudWalls();")) {
                b.append(line).append('\n');
            } else {
                holds("a call and its answer: " + line, line.isBlank());
            }
        }
        return b.append("return all;\n}\n}\n").toString();
    }

    private void run(String program) throws Exception {
        Path room = Files.createTempDirectory("readme");
        Path file = Files.writeString(room.resolve("ReadmeCalls.java"), program);
        JavaCompiler compiler = ToolProvider.getSystemJavaCompiler();
        int code = compiler.run(null, null, null, "-cp", System.getProperty("java.class.path"), "-d", room.toString(), file.toString());
        check.same("the page's Java compiles", 0, code);
        if (code == 0) {
            try (URLClassLoader loader = new URLClassLoader(new URL[] {room.toUri().toURL()})) {
                compare((List<?>) loader.loadClass("ReadmeCalls").getMethod("answers").invoke(null));
            }
        }
        clear(room);
    }

    private void compare(List<?> answers) {
        int next = 0;
        for (String line : lines) {
            Matcher call = CALL.matcher(line);
            if (call.matches()) {
                String due = call.group(3).equals("NONE") ? "-1" : call.group(3);
                String got = next < answers.size() ? String.valueOf(answers.get(next)) : "nothing";
                holds(call.group(1) + " answered " + got + ", the page says " + due, due.equals(got));
                next++;
            }
        }
        check.same("calls that answer", next, answers.size());
    }

    private static void clear(Path room) throws IOException {
        try (Stream<Path> inside = Files.list(room)) {
            for (Path each : inside.toList()) {
                Files.delete(each);
            }
        }
        Files.delete(room);
    }

    private void testsAreListed() throws IOException {
        Set<String> there = new TreeSet<>();
        try (Stream<Path> files = Files.list(Path.of("src/test/java"))) {
            files.forEach(file -> there.add(file.getFileName().toString()));
        }
        Set<String> named = new TreeSet<>();
        Matcher name = Pattern.compile("`(\\w+\\.java)`").matcher(readme);
        while (name.find()) {
            named.add(name.group(1));
        }
        holds("the page lists the tests " + there + ": " + named, there.equals(named));
    }

    private void commandIsThere() throws IOException {
        check.same("one command", 1, commands.size());
        for (String command : commands) {
            holds(command + " can be run", Files.isExecutable(Path.of(command)));
            String script = Files.readString(Path.of(command));
            holds(command + " runs every test of the project", script.contains("src/test/java/*Test.java"));
            holds(command + " runs the shared tests", script.contains("../shared/tests"));
        }
    }
}
