import java.io.IOException;
import java.nio.file.Files;
import java.nio.file.Path;
import java.util.ArrayList;
import java.util.List;
import java.util.Map;
import java.util.Set;
import java.util.TreeMap;
import java.util.TreeSet;
import java.util.regex.Matcher;
import java.util.regex.Pattern;

/**
 * The sentences of ../shared/DOC.md, by promise; the section "Terms" is promise 0. A sentence ends with a full stop or
 * a semicolon at a line's end or before a space, and a parameter's line is one too. Runs in the project's folder.
 */
final class Document {
    static final int TERMS = 0;
    static final int LAST = 35;
    private static final Path PATH = Path.of("../shared/DOC.md");

    private final Map<Integer, List<String>> sentences = new TreeMap<>();
    private final Map<Integer, Set<String>> quoted = new TreeMap<>();

    Document() {
        String text;
        try {
            text = Files.readString(PATH);
        } catch (IOException e) {
            throw new IllegalStateException("the document is not at " + PATH.toAbsolutePath(), e);
        }
        Pattern head = Pattern.compile("(Terms|Promise (\\d+): .*)");
        for (String section : text.split("\n## ")) {
            int end = section.indexOf('\n');
            Matcher matcher = head.matcher(end < 0 ? section : section.substring(0, end));
            if (matcher.matches()) {
                int promise = matcher.group(2) == null ? TERMS : Integer.parseInt(matcher.group(2));
                sentences.put(promise, split(section.substring(end)));
                quoted.put(promise, new TreeSet<>());
            }
        }
    }

    private static List<String> split(String section) {
        List<String> found = new ArrayList<>();
        for (String line : section.split("\n")) {
            for (String sentence : line.split("(?<=[.;])\\s+")) {
                String plain = sentence.trim().replaceAll("\\s+", " ");
                boolean silent = plain.isEmpty() || plain.startsWith("```") || plain.equals("Time, hosts and leases")
                        || plain.startsWith("Ahead of the calls");
                if (!silent) {
                    found.add(plain);
                }
            }
        }
        return found;
    }

    /** Whether a promise has a sentence with these words; it counts as quoted then. */
    boolean quote(int promise, String words) {
        boolean found = false;
        for (String sentence : sentences.getOrDefault(promise, List.of())) {
            if (sentence.contains(words)) {
                quoted.get(promise).add(sentence);
                found = true;
            }
        }
        return found;
    }

    List<String> neverQuoted() {
        List<String> left = new ArrayList<>();
        for (int promise = TERMS; promise <= LAST; promise++) {
            for (String sentence : sentences.getOrDefault(promise, List.of("(the whole section)"))) {
                if (!quoted.getOrDefault(promise, Set.of()).contains(sentence)) {
                    left.add("promise " + promise + ": " + sentence);
                }
            }
        }
        return left;
    }
}
