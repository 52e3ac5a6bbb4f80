import java.io.IOException;
import java.lang.management.ManagementFactory;
import java.lang.reflect.Constructor;
import java.lang.reflect.Field;
import java.lang.reflect.Method;
import java.lang.reflect.Modifier;
import java.nio.file.Files;
import java.nio.file.Path;
import java.util.ArrayList;
import java.util.Arrays;
import java.util.List;
import java.util.TreeSet;
import java.util.regex.Matcher;
import java.util.regex.Pattern;

/** The document's face, and rules of LANGUAGE.md that a program can look at. Runs in the project's folder. */
public final class RulesTest {
    private static final String[] FACE = {
        "int write(int)", "int wipe()", "int fault()", "int night()", "int about(int)", "int person(int,int)",
        "int stand(int,int)", "int bucket(int,int)", "int beat()", "int change(int,int)", "int mend(int)",
        "int drop(int)", "int undo()", "int later(int,int)", "int out()", "int swap(int,int)", "int line(int,int)",
        "int judge(int,long)", "int share(int,boolean)", "int see(int,int,int)", "int unsee()", "int fires(int)",
        "int rests(int,int,int)", "int falls(int,int,boolean)", "long seed(long)", "int nights(int)",
        "int keep(int)", "int again(int)"};
    private static final Path SOURCE = Path.of("src/main/java/BucketChain.java");
    private static final int[] WILD = {
        Integer.MIN_VALUE, -101, -10, -9, -1, 0, 1, 2, 4, 5, 8, 9, 14, 31, 32, 36, 41, 99, 100, 255, Integer.MAX_VALUE};

    public static void main(String[] args) throws IOException {
        face();
        faceOfDocument();
        names();
        words();
        lengths();
        wildArguments();
        noObjects();
        Check.end();
    }

    private static String told(Method method) {
        StringBuilder all = new StringBuilder(method.getReturnType() + " " + method.getName() + "(");
        for (Class<?> type : method.getParameterTypes()) {
            all.append(all.charAt(all.length() - 1) == '(' ? "" : ",").append(type);
        }
        return all.append(")").toString();
    }

    private static void face() {
        List<String> open = new ArrayList<>();
        for (Method method : BucketChain.class.getDeclaredMethods()) {
            if (!Modifier.isPrivate(method.getModifiers()) && !method.isSynthetic()) {
                open.add(told(method));
                Check.due(told(method) + " is public and of the object", method.getModifiers(), Modifier.PUBLIC);
            }
        }
        TreeSet<String> want = new TreeSet<>(Arrays.asList(FACE));
        Check.due("face " + open, new TreeSet<>(open).equals(want) ? 1 : 0, 1);
        List<String> constants = new ArrayList<>();
        for (Field field : BucketChain.class.getDeclaredFields()) {
            if (!Modifier.isPrivate(field.getModifiers())) {
                constants.add(field.getName());
            }
        }
        Check.due("constants " + constants,
            constants.equals(List.of("UNKNOWN", "BAD", "LATE", "FULL", "NONE")) ? 1 : 0, 1);
        Constructor<?>[] constructors = BucketChain.class.getDeclaredConstructors();
        Check.due("one constructor", constructors.length, 1);
        Check.due("without arguments", constructors[0].getParameterCount(), 0);
        Check.due("the class", BucketChain.class.getModifiers(), Modifier.PUBLIC | Modifier.FINAL);
    }

    /** The listing ahead of the document's Terms, line by line: names, types and numbers. */
    private static void faceOfDocument() throws IOException {
        if (!Doc.isThere()) {
            return;
        }
        String source = Files.readString(SOURCE);
        int calls = 0;
        for (String line : Doc.face().split("\n")) {
            String told = line.trim();
            if (told.startsWith("public")) {
                String head = told.endsWith(");") ? told.replace(";", " {") : told;
                Check.due("the program has " + head, source.contains(head + "\n") ? 1 : 0, 1);
                calls += told.endsWith(");") ? 1 : 0;
            }
        }
        Check.due("calls of the document, and the constructor", calls, FACE.length + 1);
    }

    private static void names() {
        TreeSet<String> open = new TreeSet<>();
        for (String method : FACE) {
            open.add(method.substring(method.indexOf(' ') + 1, method.indexOf('(')));
        }
        Class<?>[] inside = BucketChain.class.getDeclaredClasses();
        Check.due("twelve classes at most", inside.length < 12 ? 1 : 0, 1);
        for (Class<?> part : inside) {
            Check.due(part + " is static", Modifier.isStatic(part.getModifiers()) ? 1 : 0, 1);
            Check.due(part + " has twenty fields at most",
                Arrays.stream(part.getDeclaredFields()).filter(f -> !Modifier.isStatic(f.getModifiers())).count() <= 20
                    ? 1 : 0, 1);
            for (Method method : part.getDeclaredMethods()) {
                Check.due(part + "." + method.getName() + " bears a public name",
                    open.contains(method.getName()) ? 1 : 0, 0);
                Check.due(part + "." + method.getName() + " takes seven at most",
                    method.getParameterCount() <= 7 ? 1 : 0, 1);
            }
        }
    }

    private static void words() throws IOException {
        String source = Files.readString(SOURCE);
        String code = source.replaceAll("(?s)/\\*.*?\\*/", " ").replaceAll("//[^\n]*", " ");
        Pattern banned = Pattern.compile("\\b(throw|throws|try|catch|finally|synchronized|assert|import|package|var"
            + "|Object|Random|System\\.(?!arraycopy)\\w+|\\w+Exact|hashCode|toString|getClass|protected|native"
            + "|double|float|volatile|transient)\\b|->|::|\\bstatic\\s*\\{");
        Matcher found = banned.matcher(code);
        while (found.find()) {
            Check.due("'" + found.group() + "' stands in the program", 1, 0);
        }
        Check.due("signs 1 to 127 alone", source.chars().allMatch(c -> c > 0 && c < 128) ? 1 : 0, 1);
    }

    /** Methods stay short: some sixty lines. */
    private static void lengths() throws IOException {
        Matcher found = Pattern.compile("(?ms)^( {4}| {8})(?! )([^\n]*\\) \\{)\n(.*?)^\\1\\}$")
            .matcher(Files.readString(SOURCE));
        int methods = 0;
        while (found.find()) {
            methods++;
            Check.due("lines of " + found.group(2), found.group(3).lines().count() <= 60 ? 1 : 0, 1);
        }
        Check.due("methods were found: " + methods, methods > FACE.length ? 1 : 0, 1);
    }

    private static BucketChain someNight(int which) {
        String[] nights = {"W0000", "W5011P0P2P1B91B51", "W9999P0P1P2P3P0B90B81B71B10", "W0000B90", "W1200P3"};
        BucketChain chain = Check.night(nights[which % nights.length]);
        Check.beats(chain, which / nights.length);
        return chain;
    }

    private static void wildArguments() {
        for (int which = 0; which < 40; which++) {
            for (Method method : BucketChain.class.getDeclaredMethods()) {
                if (Modifier.isPublic(method.getModifiers())) {
                    callWildly(method, which);
                }
            }
        }
    }

    private static void callWildly(Method method, int which) {
        BucketChain chain = someNight(which);
        int count = method.getParameterCount();
        for (int call = 0; call < Math.pow(WILD.length, Math.min(2, count)); call++) {
            chain = call % 200 == 199 ? someNight(which) : chain;
            Object[] arguments = new Object[count];
            int left = call;
            for (int at = 0; at < count; at++) {
                int wild = WILD[(left + 7 * at * which) % WILD.length];
                left /= at == 1 ? 1 : WILD.length;
                Class<?> type = method.getParameterTypes()[at];
                arguments[at] = type == boolean.class ? (Object) (wild > 0)
                    : type == long.class ? (Object) (wild * 4294967311L) : (Object) wild;
            }
            try {
                method.invoke(chain, arguments);
            } catch (ReflectiveOperationException thrown) {
                Check.due(method.getName() + Arrays.toString(arguments) + " threw " + thrown.getCause(), 1, 0);
            }
        }
    }

    /** All calls of a run live in one room, so a call makes no objects at all. */
    private static void noObjects() {
        com.sun.management.ThreadMXBean room =
            (com.sun.management.ThreadMXBean) ManagementFactory.getThreadMXBean();
        BucketChain chain = Check.night("W9912P0P1P2P3P0B90B81B71B10");
        long self = Thread.currentThread().getId();
        room.getThreadAllocatedBytes(self);
        long before = room.getThreadAllocatedBytes(self);
        long sum = 0;
        for (int turn = 0; turn < 15; turn++) {
            sum += chain.fault() + chain.beat() + chain.change(0, 1) + chain.drop(0) + chain.mend(1) + chain.undo();
            sum += chain.later(40, 0) + chain.out() + chain.swap(20, 1) + chain.line(20, 1) + chain.judge(4, 0L);
            sum += chain.share(0, true) + chain.see(1, 1, 1) + chain.fires(0) + chain.rests(0, 1, 1);
            sum += chain.falls(5, 5, true) + chain.seed(turn) + chain.nights(30) + chain.keep(0) + chain.again(0);
            sum += chain.about(7) + chain.person(0, 1) + chain.stand(0, 1) + chain.bucket(0, 2) + chain.night();
        }
        long made = room.getThreadAllocatedBytes(self) - before;
        // The machine's own counting may take a little; 375 calls that made one object each would take more.
        Check.due("bytes made by calls (sum " + sum + "): " + made, made < 4000 ? 1 : 0, 1);
    }
}
