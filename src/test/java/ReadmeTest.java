import java.io.File;
import java.lang.reflect.Method;
import java.nio.file.Files;
import java.nio.file.Path;
import java.util.ArrayList;
import java.util.Comparator;
import java.util.List;
import java.util.Map;
import java.util.TreeSet;
import java.util.regex.Matcher;
import java.util.regex.Pattern;
import java.util.stream.Stream;

/** README.md says nothing that does not hold: its example, its tables and its commands. */
public final class ReadmeTest {
    private static final Checks CHECKS = new Checks();
    private static final Pattern CALL = Pattern.compile("desk\\.(\\w+)\\((.*)\\); +// (-?\\d+)(: ([A-Z]+),)?.*");
    private static final Pattern ROW = Pattern.compile("\\| `([^`]+)` \\|.*");

    public static void main(String[] args) throws Exception {
        Map<String, String> parts = Readings.parts(Path.of("README.md"));
        example(parts.get("Use"));
        calls(parts.get("Use"));
        tests(parts.get("Tests"));
        script(parts.get("Tests"));
        commands(parts);
        CHECKS.finish();
    }

    private static void example(String use) throws Exception {
        PacketDesk desk = new PacketDesk();
        int answers = 0;
        for (String line : use.lines().filter(one -> one.startsWith("desk.")).toList()) {
            Matcher call = CALL.matcher(line);
            CHECKS.isTrue("a call with its answer: " + line, call.matches());
            long want = Long.parseLong(call.group(3));
            CHECKS.due("README.md: " + line, answer(desk, call.group(1), call.group(2)), want);
            if (call.group(5) != null) {
                CHECKS.due(line, PacketDesk.class.getField(call.group(5)).getInt(null), want);
            }
            answers++;
        }
        CHECKS.isTrue("calls of the example: " + answers, answers > 10);
    }

    private static long answer(PacketDesk desk, String name, String arguments) throws Exception {
        String[] words = arguments.isEmpty() ? new String[0] : arguments.split(", ");
        for (Method method : PacketDesk.class.getMethods()) {
            if (method.getName().equals(name) && method.getParameterCount() == words.length) {
                Object[] values = new Object[words.length];
                for (int i = 0; i < words.length; i++) {
                    values[i] = Long.decode(words[i]).intValue();
                }
                return ((Number) method.invoke(desk, values)).longValue();
            }
        }
        CHECKS.isTrue("the class has " + name + "(" + arguments + ")", false);
        return 0;
    }

    private static List<String> rows(String part) {
        return part.lines().map(ROW::matcher).filter(Matcher::matches).map(row -> row.group(1)).toList();
    }

    private static void calls(String use) throws Exception {
        List<String> due = Readings.calls(Readings.face());
        CHECKS.isTrue("the table of calls " + rows(use) + ", due is " + due, rows(use).equals(due));
    }

    private static void tests(String part) throws Exception {
        TreeSet<String> due = new TreeSet<>();
        try (Stream<Path> files = Files.list(Path.of("src/test/java"))) {
            files.map(file -> file.getFileName().toString()).filter(name -> name.endsWith("Test.java"))
                .forEach(name -> due.add(name.replace(".java", "")));
        }
        TreeSet<String> told = new TreeSet<>(rows(part));
        CHECKS.isTrue("the table of tests " + told + ", due is " + due, told.equals(due));
    }

    private static void script(String part) {
        CHECKS.isTrue("README.md names .ci/run", part.lines().anyMatch(line -> line.equals("    .ci/run")));
        CHECKS.isTrue(".ci/run can be run", Files.isExecutable(Path.of(".ci/run")));
    }

    /** All but .ci/run, which runs this test itself; in a folder of their own instead of out. */
    private static void commands(Map<String, String> parts) throws Exception {
        Path folder = Files.createTempDirectory("readme");
        Files.writeString(folder.resolve("Example.java"), program(parts.get("Use")));
        int done = 0;
        for (String line : lines(parts)) {
            String command = line.strip().replaceFirst("\\bout\\b", folder + "/out")
                .replace(" Example.java", " " + folder + "/Example.java");
            CHECKS.due("README.md: " + line.strip(), ended(command, folder.resolve("log").toFile()), 0);
            done++;
        }
        CHECKS.due("commands", done, 6);
        try (Stream<Path> files = Files.walk(folder)) {
            files.sorted(Comparator.reverseOrder()).map(Path::toFile).forEach(File::delete);
        }
    }

    private static List<String> lines(Map<String, String> parts) {
        List<String> lines = new ArrayList<>();
        for (String part : parts.values()) {
            part.lines().filter(line -> line.matches(" {4}javac? .*")).forEach(lines::add);
        }
        return lines;
    }

    private static String program(String use) {
        String body = use.substring(use.indexOf("```java") + 7, use.lastIndexOf("```"));
        return "public class Example { public static void main(String[] args) {" + body + "} }\n";
    }

    private static int ended(String command, File log) throws Exception {
        List<String> words = new ArrayList<>(List.of(command.split(" +")));
        words.set(0, Path.of(System.getProperty("java.home"), "bin", words.get(0)).toString());
        Process process = new ProcessBuilder(words).redirectErrorStream(true).redirectOutput(log).start();
        int code = process.waitFor();
        if (code != 0) {
            System.out.print(Files.readString(log.toPath()));
        }
        return code;
    }
}
