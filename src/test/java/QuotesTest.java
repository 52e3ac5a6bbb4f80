import java.io.IOException;
import java.nio.file.Files;
import java.nio.file.Path;
import java.util.ArrayList;
import java.util.HashMap;
import java.util.List;
import java.util.Map;
import java.util.TreeSet;
import java.util.regex.Matcher;
import java.util.regex.Pattern;
import java.util.stream.Stream;

/** Each sentence of the document has a test: what Check.says quotes, all in all, leaves no word out. */
public final class QuotesTest {
    private static final Path TESTS = Path.of("src/test/java");
    private static final Pattern QUOTE = Pattern.compile("Check\\.says\\(\"([^\"]*)\", \"([^\"]*)\"\\)");

    public static void main(String[] args) throws IOException {
        if (Doc.isThere()) {
            Map<String, List<String>> quotes = quotes();
            dueAll("Terms", quotes);
            for (int promise = 1; promise <= Doc.PROMISES; promise++) {
                dueAll("Promise " + promise, quotes);
            }
        } else {
            System.out.println("the document is not there: no quote was looked up");
        }
        Check.end();
    }

    private static Map<String, List<String>> quotes() throws IOException {
        Map<String, List<String>> all = new HashMap<>();
        try (Stream<Path> files = Files.list(TESTS)) {
            for (Path file : files.filter(path -> path.toString().endsWith("Test.java")).toList()) {
                String source = Files.readString(file).replaceAll("\"\\s*\\+\\s*\"", "");
                Matcher found = QUOTE.matcher(source);
                while (found.find()) {
                    all.computeIfAbsent(found.group(1), part -> new ArrayList<>()).add(found.group(2));
                }
            }
        }
        return all;
    }

    private static void dueAll(String part, Map<String, List<String>> quotes) {
        String left = Doc.part(part);
        Check.due(part + " is in the document", left.isEmpty() ? 0 : 1, 1);
        List<String> told = new ArrayList<>(new TreeSet<>(quotes.getOrDefault(part, List.of())));
        // The longest first, so that a short one ("BAD.") takes nothing out of the middle of another one.
        told.sort((one, other) -> other.length() - one.length());
        for (String quote : told) {
            Check.due(part + " has \"" + quote + "\"", left.contains(quote.trim()) ? 1 : 0, 1);
            left = left.replaceFirst(Pattern.quote(quote.trim()), "|");
        }
        String unquoted = left.replaceAll("=+ \\d", "").replaceAll("[|\\s]+", "");
        Check.due(part + " has words without a test: " + left, unquoted.isEmpty() ? 0 : 1, 0);
    }
}
