import java.util.ArrayList;
import java.util.Arrays;
import java.util.LinkedHashMap;
import java.util.List;
import java.util.Map;

/** Every word of the document's terms and promises is told by some test, and no test tells others. */
public final class DocumentTest {
    private static final Checks CHECKS = new Checks();

    public static void main(String[] args) throws Exception {
        Map<String, String> parts = parts();
        Map<String, List<String>> told = told();
        for (Map.Entry<String, String> entry : parts.entrySet()) {
            String heading = entry.getKey();
            if (isPromised(heading)) {
                compare(heading, entry.getValue(), told.getOrDefault(heading, List.of()));
            }
        }
        for (String heading : told.keySet()) {
            CHECKS.isTrue("the document has the heading: " + heading, parts.containsKey(heading));
        }
        CHECKS.finish();
    }

    /** The face is FaceTest's; what is not promised needs no test. */
    private static boolean isPromised(String heading) {
        return heading.equals("What it is") || heading.equals("Terms") || heading.startsWith("Promise ");
    }

    private static Map<String, String> parts() throws Exception {
        Map<String, String> parts = Readings.parts(Readings.DOCUMENT);
        parts.replaceAll((heading, text) -> folded(text
            .replaceAll("(?m)^```.*$", " ")
            .replaceAll("(?m)^`[^`]*`: ", " ")));
        return parts;
    }

    private static String folded(String words) {
        return words.replaceAll("\\s+", " ").strip();
    }

    private static Map<String, List<String>> told() {
        Map<String, List<String>> told = new LinkedHashMap<>();
        Telling listener = new Telling() {
            private List<String> here = new ArrayList<>();

            @Override
            public void part(String heading) {
                here = told.computeIfAbsent(heading, unused -> new ArrayList<>());
            }

            @Override
            public void says(String words, Runnable test) {
                here.add(words);
            }
        };
        WorkTest.tell(listener);
        RefusedTest.tell(listener);
        HeadersTest.tell(listener);
        RunsTest.tell(listener);
        HashTest.tell(listener);
        CipherTest.tell(listener);
        KeysTest.tell(listener);
        LettersTest.tell(listener);
        OrderTest.tell(listener);
        return told;
    }

    private static void compare(String heading, String text, List<String> told) {
        boolean[] covered = new boolean[text.length()];
        for (String words : told) {
            int from = text.indexOf(words);
            while (from >= 0 && covered[from]) {
                from = text.indexOf(words, from + 1);
            }
            CHECKS.isTrue(heading + " says: " + words, from >= 0);
            if (from >= 0) {
                Arrays.fill(covered, from, from + words.length(), true);
            }
        }
        StringBuilder left = new StringBuilder();
        for (int i = 0; i < text.length(); i++) {
            left.append(covered[i] ? ' ' : text.charAt(i));
        }
        String untold = folded(left.toString());
        CHECKS.isTrue(heading + " has words without a test: " + untold, untold.isEmpty());
    }
}
