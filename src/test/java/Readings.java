import java.nio.file.Files;
import java.nio.file.Path;
import java.util.ArrayList;
import java.util.LinkedHashMap;
import java.util.List;
import java.util.Map;
import java.util.regex.Matcher;
import java.util.regex.Pattern;

/** What the tests read out of the texts: the parts of a file, and the public face of the document. */
final class Readings {
    static final Path DOCUMENT = Path.of("../shared/DOC.md");
    private static final Pattern METHOD = Pattern.compile("public (int|long) (\\w+)\\((.*)\\);");

    private Readings() {
    }

    /** The texts under the headings of the second order, each by its heading. */
    static Map<String, String> parts(Path file) throws Exception {
        Map<String, String> parts = new LinkedHashMap<>();
        for (String part : Files.readString(file).split("(?m)^## ")) {
            int end = part.indexOf('\n');
            parts.put(part.substring(0, end).strip(), part.substring(end + 1));
        }
        return parts;
    }

    static List<String> face() throws Exception {
        String part = parts(DOCUMENT).get("The public face");
        return part.lines().map(String::strip).toList();
    }

    static Map<String, Integer> constants(List<String> face) {
        Map<String, Integer> constants = new LinkedHashMap<>();
        for (String line : face) {
            if (line.startsWith("public static final int ")) {
                Matcher one = Pattern.compile("(\\w+) = (-?\\d+)").matcher(line);
                while (one.find()) {
                    constants.put(one.group(1), Integer.parseInt(one.group(2)));
                }
            }
        }
        return constants;
    }

    /** As "int set(int, int)". */
    static List<String> methods(List<String> face) {
        List<String> methods = new ArrayList<>();
        for (String line : face) {
            Matcher method = METHOD.matcher(line);
            if (method.matches()) {
                String types = method.group(3).replaceAll("(\\w+) \\w+", "$1");
                methods.add(method.group(1) + " " + method.group(2) + "(" + types + ")");
            }
        }
        return methods;
    }

    /** As "set(k, v)". */
    static List<String> calls(List<String> face) {
        List<String> calls = new ArrayList<>();
        for (String line : face) {
            Matcher method = METHOD.matcher(line);
            if (method.matches()) {
                calls.add(method.group(2) + "(" + method.group(3).replaceAll("\\w+ (\\w+)", "$1") + ")");
            }
        }
        return calls;
    }
}
