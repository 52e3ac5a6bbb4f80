import java.io.IOException;
import java.nio.file.Files;
import java.nio.file.Path;

/** The document's parts as plain texts, so that a test can be held against the sentence that it is for. */
final class Doc {
    static final int PROMISES = 29;
    private static final Path FILE = Path.of("../shared/DOC.md");
    private static final String WHOLE = read();

    private Doc() {
    }

    private static String read() {
        try {
            return Files.exists(FILE) ? Files.readString(FILE) : "";
        } catch (IOException unreadable) {
            return "";
        }
    }

    /** Away from the document the tests still run; their quotes alone are not looked up then. */
    static boolean isThere() {
        return !WHOLE.isEmpty();
    }

    static String plain(String text) {
        return text.replace("```text", " ").replace("```", " ").replaceAll("\\s+", " ").trim();
    }

    /** The listing of constants and calls. */
    static String face() {
        int from = WHOLE.indexOf("```java");
        int end = from < 0 ? -1 : WHOLE.indexOf("\n```", from);
        return end < 0 ? "" : WHOLE.substring(from + "```java".length(), end);
    }

    /** What stands below the heading of "Terms" or of "Promise 7", without the call's own line. */
    static String part(String name) {
        String heading = name.equals("Terms") ? "\n## Terms\n" : "\n## " + name + ":";
        int from = WHOLE.indexOf(heading);
        if (from < 0) {
            return "";
        }
        int end = WHOLE.indexOf("\n## ", from + heading.length());
        String found = WHOLE.substring(WHOLE.indexOf('\n', from + heading.length() - 1), end < 0 ? WHOLE.length() : end);
        return plain(name.equals("Terms") ? withoutInterface(found) : behindCall(found));
    }

    /** The remarks that head groups of calls ask for nothing. */
    private static String withoutInterface(String terms) {
        int remarks = terms.indexOf("Ahead of the calls");
        return remarks < 0 ? terms : terms.substring(0, remarks);
    }

    private static String behindCall(String promise) {
        int call = promise.indexOf("`: ");
        return call < 0 ? promise : promise.substring(call + 3);
    }
}
