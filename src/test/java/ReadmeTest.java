import java.io.IOException;
import java.nio.file.Files;
import java.nio.file.Path;
import java.util.ArrayList;
import java.util.Comparator;
import java.util.LinkedHashMap;
import java.util.List;
import java.util.Map;
import java.util.TreeSet;
import java.util.regex.Matcher;
import java.util.regex.Pattern;
import java.util.stream.Collectors;
import java.util.stream.Stream;

/** What README.md says of calls, answers and commands holds when it is tried. Runs in the project's folder. */
public final class ReadmeTest {
    private static final Pattern BLOCK = Pattern.compile("(?s)```(\\w+)\\n(.*?)```");
    private static final Pattern ANSWERED =
        Pattern.compile("(chain\\.(\\w+)\\(.*\\));\\s+// (UNKNOWN|BAD|LATE|FULL|NONE|-?\\d+)(: .*)?");
    private static final Pattern ROW = Pattern.compile("(?m)^\\| `(\\w+)\\(([^)]*)\\)` \\| (.*) \\| ?(.*)\\|$");
    private static final Pattern FACE = Pattern.compile("public (?:int|long) (\\w+)\\(([^)]*)\\);");

    private record Block(String kind, String text) {
    }

    private final String page;
    private final List<Block> blocks = new ArrayList<>();
    private final Path room;

    private ReadmeTest(String page, Path room) {
        this.page = page;
        this.room = room;
        Matcher found = BLOCK.matcher(page);
        while (found.find()) {
            blocks.add(new Block(found.group(1), found.group(2)));
        }
    }

    public static void main(String[] args) throws Exception {
        Path room = Files.createTempDirectory("readme");
        try {
            ReadmeTest test = new ReadmeTest(Files.readString(Path.of("README.md")), room);
            test.copySources();
            test.firstProgram();
            test.oneTestAlone();
            test.examples();
            test.tableOfCalls();
            test.eachRefusalIsShown();
            test.tableOfNames();
            test.tableOfTests();
        } finally {
            empty(room);
        }
        Check.end();
    }

    // ---- commands, in a copy of the project

    private static void empty(Path folder) throws IOException {
        try (Stream<Path> files = Files.walk(folder)) {
            for (Path file : files.sorted(Comparator.reverseOrder()).toList()) {
                Files.delete(file);
            }
        }
    }

    private void copySources() throws IOException {
        try (Stream<Path> files = Files.walk(Path.of("src"))) {
            for (Path file : files.toList()) {
                Files.copy(file, room.resolve(file.toString()));
            }
        }
    }

    private Block blockWith(String kind, String words) {
        for (Block block : blocks) {
            if (block.kind().equals(kind) && block.text().contains(words)) {
                return block;
            }
        }
        Check.due("README.md has a block of " + kind + " with " + words, 0, 1);
        return new Block(kind, "");
    }

    /** What the commands print; each of them has to end well. */
    private String run(String commands) throws IOException, InterruptedException {
        StringBuilder printed = new StringBuilder();
        for (String command : commands.split("\n")) {
            Process process = new ProcessBuilder("bash", "-c", command)
                .directory(room.toFile()).redirectErrorStream(true).start();
            printed.append(new String(process.getInputStream().readAllBytes()));
            Check.due("exit code of " + command + ": " + printed, process.waitFor(), 0);
        }
        return printed.toString();
    }

    private void firstProgram() throws IOException, InterruptedException {
        Files.writeString(room.resolve("First.java"), blockWith("java", "class First").text());
        String printed = run(blockWith("sh", "First.java").text());
        String want = blockWith("text", "the fire is").text();
        Check.due("First prints\n" + printed, printed.equals(want) ? 1 : 0, 1);
    }

    private void oneTestAlone() throws IOException, InterruptedException {
        String printed = run(blockWith("sh", "NightTest").text());
        Check.due("NightTest alone: " + printed, printed.contains(" 0 not as due") ? 1 : 0, 1);
        Check.due(".ci/run can be run", Files.isExecutable(Path.of(".ci/run")) ? 1 : 0, 1);
        blockWith("sh", "bash .ci/run");
    }

    // ---- examples

    private List<Block> exampleBlocks() {
        return blocks.stream().filter(b -> b.kind().equals("java") && !b.text().contains("class First")).toList();
    }

    /** Each example becomes a method in which each call is held against the answer behind it. */
    private void examples() throws IOException, InterruptedException {
        StringBuilder source = new StringBuilder("public final class Examples {\n");
        StringBuilder all = new StringBuilder("public static void main(String[] args) {\n");
        int number = 0;
        for (Block block : exampleBlocks()) {
            number++;
            source.append("static void example").append(number).append("() {\n");
            for (String line : block.text().split("\n")) {
                source.append(asTest("README.md, example " + number, line)).append('\n');
            }
            source.append("}\n");
            all.append("example").append(number).append("();\n");
        }
        Check.due("README.md has examples", number > 5 ? 1 : 0, 1);
        source.append(all).append("Check.end();\n}\n}\n");
        Files.writeString(room.resolve("Examples.java"), source.toString());
        // Beside the first program, whose night(text) the examples use, and the tests' Check, which counts.
        run("javac -cp out -d out Examples.java\njava -cp out Examples");
    }

    private String asTest(String where, String line) {
        Matcher found = ANSWERED.matcher(line);
        if (found.matches()) {
            String call = found.group(1);
            String quoted = call.replace("\\", "\\\\").replace("\"", "\\\"");
            return "Check.due(\"" + where + ": " + quoted + "\", " + call + ", " + inJava(found.group(3)) + ");";
        }
        Check.due(where + " tells the answer: " + line, line.startsWith("chain.") ? 1 : 0, 0);
        return line.replace("night(\"", "First.night(\"");
    }

    private static String inJava(String answer) {
        return Character.isLetter(answer.charAt(0)) ? "BucketChain." + answer : answer + "L";
    }

    // ---- tables

    /** Each call as "write(letter)" with what it can be refused by. */
    private Map<String, List<String>> rows() {
        Map<String, List<String>> rows = new LinkedHashMap<>();
        Matcher found = ROW.matcher(page);
        while (found.find()) {
            String refusals = found.group(4).trim();
            rows.put(found.group(1) + "(" + found.group(2) + ")",
                refusals.isEmpty() ? List.of() : List.of(refusals.split(", ")));
        }
        return rows;
    }

    private void tableOfCalls() {
        if (!Doc.isThere()) {
            return;
        }
        Map<String, List<String>> rows = rows();
        List<String> face = new ArrayList<>();
        Matcher found = FACE.matcher(Doc.face());
        while (found.find()) {
            face.add(found.group(1) + "(" + found.group(2).replaceAll("\\b(int|long|boolean) ", "") + ")");
        }
        Check.due("README.md has the calls " + rows.keySet(), List.copyOf(rows.keySet()).equals(face) ? 1 : 0, 1);
        for (int at = 0; at < face.size(); at++) {
            // Promise 1 is the constructor's.
            List<String> want = refusalsIn(Doc.part("Promise " + (at + 2)));
            List<String> told = rows.getOrDefault(face.get(at), List.of());
            Check.due(face.get(at) + " tells " + told + " as the document " + want, told.equals(want) ? 1 : 0, 1);
        }
    }

    /** In the order in which the document tells them; NONE, which is no refusal, at the end. */
    private static List<String> refusalsIn(String promise) {
        List<String> all = new ArrayList<>();
        Matcher found = Pattern.compile("\\b(UNKNOWN|BAD|LATE|FULL)\\b").matcher(promise);
        while (found.find()) {
            all.add(found.group(1));
        }
        if (promise.matches("(?s).*\\bNONE\\b.*")) {
            all.add("NONE");
        }
        return all;
    }

    /** Each call has an example with an answer, and one for each way in which it is refused. */
    private void eachRefusalIsShown() {
        TreeSet<String> shown = new TreeSet<>();
        for (Block block : exampleBlocks()) {
            for (String line : block.text().split("\n")) {
                Matcher found = ANSWERED.matcher(line);
                if (found.matches()) {
                    String answer = found.group(3);
                    shown.add(found.group(2) + " " + (Character.isLetter(answer.charAt(0)) ? answer : "answers"));
                }
            }
        }
        // The page says that this one does not come about.
        shown.add("rests NONE");
        rows().forEach((call, refusals) -> {
            String name = call.substring(0, call.indexOf('('));
            Check.due("README.md shows an answer of " + name, shown.contains(name + " answers") ? 1 : 0, 1);
            for (String refusal : refusals) {
                Check.due("README.md shows " + name + " " + refusal, shown.contains(name + " " + refusal) ? 1 : 0, 1);
            }
        });
    }

    private void tableOfNames() throws ReflectiveOperationException {
        int names = 0;
        Matcher found = Pattern.compile("(?m)^\\| `([A-Z]+)` \\| (-\\d+) \\|").matcher(page);
        while (found.find()) {
            names++;
            Check.due(found.group(1), BucketChain.class.getField(found.group(1)).getInt(null),
                Integer.parseInt(found.group(2)));
        }
        Check.due("names of answers in README.md", names, BucketChain.class.getFields().length);
    }

    private void tableOfTests() throws IOException {
        TreeSet<String> told = new TreeSet<>();
        Matcher found = Pattern.compile("(?m)^\\| `(\\w+Test)` \\|").matcher(page);
        while (found.find()) {
            told.add(found.group(1));
        }
        try (Stream<Path> files = Files.list(Path.of("src/test/java"))) {
            TreeSet<String> there = files.map(file -> file.getFileName().toString())
                .filter(name -> name.endsWith("Test.java"))
                .map(name -> name.replace(".java", "")).collect(Collectors.toCollection(TreeSet::new));
            Check.due("README.md tells the tests " + told + ", there are " + there, told.equals(there) ? 1 : 0, 1);
        }
    }
}
