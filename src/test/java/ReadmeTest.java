import java.io.IOException;
import java.lang.reflect.Method;
import java.lang.reflect.Modifier;
import java.net.URL;
import java.net.URLClassLoader;
import java.nio.file.Files;
import java.nio.file.Path;
import java.util.ArrayList;
import java.util.Comparator;
import java.util.List;
import java.util.regex.Matcher;
import java.util.regex.Pattern;
import java.util.stream.Stream;
import javax.tools.ToolProvider;

/** What README.md says: its example's answers, its commands, and that it names every call and every test. */
public final class ReadmeTest {
    private static final Pattern ANSWERED = Pattern.compile("(?:int (\\w+) = )?(\\S.*);\\s*// (-?\\d+|true|false)(?::.*)?");
    private static final String DUE = "static java.util.List<String[]> rows = new java.util.ArrayList<>();\n"
            + "static void due(String got, String call, String due) { rows.add(new String[] {got, call, due}); }\n";
    private static final Check CHECK = new Check();

    private ReadmeTest() {
    }

    public static void main(String[] args) throws IOException, ReflectiveOperationException, InterruptedException {
        String page = Files.readString(Path.of("README.md"));
        Path folder = Files.createTempDirectory("readme");
        try {
            exampleAnswers(page, folder);
        } finally {
            remove(folder);
        }
        everyCallIsInTheExample(page);
        everyTestIsNamed(page);
        commandsRun(page);
        CHECK.finish("ReadmeTest");
    }

    private static List<String> blocks(String page, String language) {
        List<String> found = new ArrayList<>();
        Matcher block = Pattern.compile("```" + language + "\n(.*?)```", Pattern.DOTALL).matcher(page);
        while (block.find()) {
            found.add(block.group(1));
        }
        return found;
    }

    private static String example(String page) {
        return blocks(page, "java").get(0);
    }

    private static void exampleAnswers(String page, Path folder) throws IOException, ReflectiveOperationException {
        Path source = folder.resolve("Example.java");
        Files.writeString(source, "final class Example {\n" + DUE + blocks(page, "java").get(1)
                + "static void run() {\n" + withAnswers(example(page)) + "}\n}\n");
        int code = ToolProvider.getSystemJavaCompiler().run(null, null, null, "-proc:none", "-cp", System.getProperty("java.class.path"),
                "-d", folder.toString(), source.toString());
        CHECK.same("javac of the example", code, 0);
        if (code != 0) {
            return;
        }
        try (URLClassLoader loader = new URLClassLoader(new URL[] {folder.toUri().toURL()})) {
            Class<?> made = loader.loadClass("Example");
            Method run = made.getDeclaredMethod("run");
            run.setAccessible(true);
            run.invoke(null);
            var rows = made.getDeclaredField("rows");
            rows.setAccessible(true);
            for (Object each : (List<?>) rows.get(null)) {
                String[] row = (String[]) each;
                CHECK.yes("README: " + row[1] + " says " + row[2] + " and answers " + row[0] + ": that", row[0].equals(row[2]));
            }
        }
    }

    /** Each line of the example with its answer held against the one behind it; any other line must be blank or a comment. */
    private static String withAnswers(String example) {
        StringBuilder code = new StringBuilder();
        for (String line : example.split("\n")) {
            Matcher m = ANSWERED.matcher(line);
            if (m.matches()) {
                boolean isNamed = m.group(1) != null;
                code.append(isNamed ? "int " + m.group(1) + " = " + m.group(2) + ";\n" : "");
                code.append("due(String.valueOf(").append(isNamed ? m.group(1) : m.group(2)).append("), \"")
                        .append(m.group(2).replace("\\", "\\\\").replace("\"", "\\\"")).append("\", \"").append(m.group(3)).append("\");\n");
            } else {
                CHECK.yes("a line of the example without an answer: " + line,
                        line.isBlank() || line.startsWith("//") || line.startsWith("BreathOnLoan furnace = new"));
                code.append(line).append('\n');
            }
        }
        return code.toString();
    }

    private static void everyCallIsInTheExample(String page) {
        String code = String.join("", blocks(page, "java"));
        for (Method m : BreathOnLoan.class.getDeclaredMethods()) {
            if (Modifier.isPublic(m.getModifiers())) {
                CHECK.yes("the example has " + m.getName(), code.contains("furnace." + m.getName() + "("));
            }
        }
    }

    private static void everyTestIsNamed(String page) throws IOException {
        try (Stream<Path> files = Files.list(Path.of("src/test/java"))) {
            for (Path file : files.toList()) {
                String name = file.getFileName().toString().replace(".java", "");
                CHECK.yes("README names " + name, !name.endsWith("Test") || page.contains("`" + name + "`"));
            }
        }
        Matcher named = Pattern.compile("`(\\w+Test)`").matcher(page);
        while (named.find()) {
            CHECK.yes(named.group(1) + " is there", Files.exists(Path.of("src/test/java", named.group(1) + ".java")));
        }
        CHECK.yes(".ci/run can be run", Files.isExecutable(Path.of(".ci/run")));
    }

    /** The first block is .ci/run, which runs this test; the second one is run here. */
    private static void commandsRun(String page) throws IOException, InterruptedException {
        List<String> commands = blocks(page, "sh");
        CHECK.yes("all tests are run by .ci/run", commands.get(0).equals(".ci/run\n"));
        Process shell = new ProcessBuilder("bash", "-e", "-c", "trap 'rm -rf \"$out\"' EXIT\n" + commands.get(1)).redirectErrorStream(true).start();
        String printed = new String(shell.getInputStream().readAllBytes());
        int code = shell.waitFor();
        CHECK.same("the commands for one test print '" + printed.strip() + "' and end", code, 0);
    }

    private static void remove(Path folder) throws IOException {
        try (Stream<Path> all = Files.walk(folder)) {
            for (Path each : all.sorted(Comparator.reverseOrder()).toList()) {
                Files.delete(each);
            }
        }
    }
}
