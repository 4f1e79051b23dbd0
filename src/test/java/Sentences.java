import java.io.IOException;
import java.nio.file.Files;
import java.nio.file.Path;
import java.util.ArrayList;
import java.util.LinkedHashMap;
import java.util.List;
import java.util.Map;
import java.util.Set;
import java.util.TreeMap;
import java.util.regex.Matcher;
import java.util.regex.Pattern;

/**
 * The sentences of the document, under the numbers of the promises (0: the Description). A test quotes the one that it
 * is for; a sentence that no test quotes is a failure, and so is a quote that is not in the document.
 */
final class Sentences {
    private static final Path DOCUMENT = Path.of("../shared/DOC.md");

    /** They lead to other sentences and promise nothing themselves. */
    private static final Set<String> LEADING = Set.of("Sheets, series, boxes", "The commands mean:",
            "The label of a box is a text");

    private static final Map<Integer, Map<String, Integer>> CHECKS = new TreeMap<>();
    private static final List<String> wrong = new ArrayList<>();
    private static List<String> quoted = new ArrayList<>();
    private static int promise = 0;

    private Sentences() { }

    static void read() throws IOException {
        String document = Files.readString(DOCUMENT);
        String described = between(document, "## Description", "\nExamples:");
        CHECKS.put(0, parts(described));
        Matcher heads = Pattern.compile("\n## Promise (\\d+):[^\n]*\n").matcher(document);
        while (heads.find()) {
            String rest = document.substring(heads.end());
            int end = rest.indexOf("\n## ");
            CHECKS.put(Integer.parseInt(heads.group(1)), parts(end < 0 ? rest : rest.substring(0, end)));
        }
        if (CHECKS.size() != 32) {
            throw new IllegalStateException("the document has not 31 promises, but " + (CHECKS.size() - 1));
        }
    }

    private static String between(String text, String from, String to) {
        int start = text.indexOf(from);
        int end = text.indexOf(to, Math.max(start, 0));
        if (start < 0 || end < 0) {
            throw new IllegalStateException("the document has no part from " + from + " to " + to);
        }
        return text.substring(start + from.length(), end);
    }

    /** Sentences, and what stands between semicolons; signatures and the headings of groups are left out. */
    private static Map<String, Integer> parts(String text) {
        Map<String, Integer> parts = new LinkedHashMap<>();
        String plain = text.replaceAll("(?m)^(----|`).*$", "").replaceAll("(?m)^- `\\w+`: ", "\n\n")
                .replaceAll("(?m)^- ", "\n\n").replaceAll("(?m)^  ", "\n\n");
        for (String paragraph : plain.split("\n\\s*\n")) {
            String line = paragraph.strip().replaceAll("\\s+", " ");
            for (String part : line.split("(?<=[^.][.;]|\\.\\))\\s+")) {
                String bare = part.replaceAll("[.;]$", "");
                if (!bare.isEmpty() && !LEADING.contains(bare)) {
                    parts.put(bare, 0);
                }
            }
        }
        return parts;
    }

    /** The checks from here on are for the sentence of a promise that begins with these words. */
    static void quote(int number, String words) {
        end();
        promise = number;
        quoted = new ArrayList<>();
        for (String part : CHECKS.get(number).keySet()) {
            if (part.startsWith(words)) {
                quoted.add(part);
            }
        }
        if (quoted.size() != 1) {
            wrong.add("promise " + number + " has " + quoted.size() + " sentences that begin with: " + words);
        }
    }

    private static int checksOfTest = 0;

    static void checked() {
        checksOfTest++;
    }

    private static void end() {
        for (String part : quoted) {
            CHECKS.get(promise).merge(part, checksOfTest, Integer::sum);
        }
        checksOfTest = 0;
    }

    static void fail(String what) {
        wrong.add("promise " + promise + ", " + quoted + "\n    " + what);
    }

    static List<String> faults() {
        end();
        List<String> faults = new ArrayList<>(wrong);
        CHECKS.forEach((number, parts) -> parts.forEach((part, checks) -> {
            if (checks == 0) {
                faults.add("promise " + number + " has a sentence without a test: " + part);
            }
        }));
        return faults;
    }

    static int size() {
        return CHECKS.values().stream().mapToInt(Map::size).sum();
    }

    static int checks() {
        return CHECKS.values().stream().flatMap(m -> m.values().stream()).mapToInt(n -> n).sum();
    }
}
