import java.io.IOException;
import java.lang.reflect.Method;
import java.lang.reflect.Modifier;
import java.net.URL;
import java.net.URLClassLoader;
import java.nio.file.DirectoryStream;
import java.nio.file.Files;
import java.nio.file.Path;
import java.util.ArrayList;
import java.util.HashMap;
import java.util.List;
import java.util.Map;
import java.util.TreeSet;
import java.util.regex.Matcher;
import java.util.regex.Pattern;
import javax.tools.JavaCompiler;
import javax.tools.ToolProvider;

/** What README.md shows: its examples are compiled and run, its tables are laid beside the document and the class. */
public final class ReadmeTest {
    private static final Check CHECK = new Check();
    private static final Path README = Path.of("README.md");
    private static final Path DOCUMENT = Path.of("..", "shared", "DOC.md");
    private static final Path WORK = Path.of("build", "readme");
    private static final Path TESTS = Path.of("src", "test", "java");
    private static final Pattern BLOCK = Pattern.compile("```java\n(.*?)```", Pattern.DOTALL);
    private static final Pattern SHOWN_CALL =
        Pattern.compile("(lane\\.\\w+\\([^)]*\\));\\s+// (GONE \\+ )?([A-Z]+|-?\\d+)\\b.*");
    private static final Pattern CALL_ROW = Pattern.compile("\\| `(\\w+\\([^)]*\\))` \\| [^|]+ \\| ([A-Z, ]*)\\|");
    private static final Pattern CONSTANT_ROW = Pattern.compile("\\| `([A-Z]+)` \\| (-\\d) \\|");
    private static final Pattern DOCUMENT_CALL = Pattern.compile("public (?:int|long) (\\w+)\\(([^)]*)\\);");
    private static final Pattern DOCUMENT_REFUSAL = Pattern.compile("\\b(UNKNOWN|OUTSIDE|NO|STATE|FULL) (-\\d)");
    private static final String[] REFUSALS = {"", "UNKNOWN", "OUTSIDE", "STATE", "FULL", "NO"};
    private static final int[] NUMBERS = {-2, -1, 0, 1, 2, 5, 8, 10, 33, 70, 127, 1024, 10000};
    private static final int STATES = 4;

    public static void main(String[] args) throws Exception {
        String readme = Files.readString(README);
        String document = Files.readString(DOCUMENT);
        examples(readme);
        callsOfTheTable(readme, document);
        refusalsOfTheTable(readme);
        refusalsInOrder(readme, document);
        everyTestIsNamed(readme);
        CHECK.end();
    }

    /** The examples' own code tells its answers here; it comes from another class loader, so this is public. */
    public static void due(String call, long got, long want) {
        CHECK.due("README's example " + call, got, want);
    }

    private static void examples(String readme) throws Exception {
        StringBuilder code = new StringBuilder("public final class Examples {\n");
        StringBuilder calls = new StringBuilder();
        int examples = 0;
        Matcher block = BLOCK.matcher(readme);
        while (block.find()) {
            String text = block.group(1);
            if (text.startsWith("static ")) {
                code.append(text);
            } else {
                examples++;
                code.append("static void example").append(examples).append("() {\n");
                code.append(withChecks(text)).append("}\n");
                calls.append("example").append(examples).append("();\n");
            }
        }
        code.append("public static void run() {\n").append(calls).append("}\n}\n");
        CHECK.so("README has examples", examples > 0);
        compileAndRun(code.toString());
    }

    private static String withChecks(String example) {
        StringBuilder code = new StringBuilder();
        for (String line : example.split("\n")) {
            Matcher call = SHOWN_CALL.matcher(line);
            if (call.matches()) {
                code.append(checkOf(call)).append('\n');
            } else {
                CHECK.so("README tells the answer of: " + line, !line.startsWith("lane."));
                code.append(line).append('\n');
            }
        }
        return code.toString();
    }

    private static String checkOf(Matcher call) {
        String want = call.group(3);
        if (!want.matches("-?\\d+")) {
            want = "SwornLane." + want;
        }
        if (call.group(2) != null) {
            want = "SwornLane.GONE + " + want;
        }
        return "ReadmeTest.due(\"" + call.group(1) + "\", " + call.group(1) + ", " + want + ");";
    }

    private static void compileAndRun(String code) throws Exception {
        Files.createDirectories(WORK);
        Path file = WORK.resolve("Examples.java");
        Files.writeString(file, code);
        JavaCompiler compiler = ToolProvider.getSystemJavaCompiler();
        int result = compiler.run(null, null, null, "-encoding", "UTF-8",
            "-cp", System.getProperty("java.class.path"), "-d", WORK.toString(), file.toString());
        CHECK.due("README's examples compile", result, 0);
        if (result != 0) {
            return;
        }
        URL[] places = {WORK.toUri().toURL()};
        try (URLClassLoader loader = new URLClassLoader(places, ReadmeTest.class.getClassLoader())) {
            loader.loadClass("Examples").getMethod("run").invoke(null);
        }
    }

    private static void callsOfTheTable(String readme, String document) {
        List<String> shown = new ArrayList<>();
        Matcher row = CALL_ROW.matcher(readme);
        while (row.find()) {
            shown.add(row.group(1));
        }
        List<String> face = new ArrayList<>();
        Matcher call = DOCUMENT_CALL.matcher(document);
        while (call.find()) {
            face.add(call.group(1) + "(" + call.group(2).replaceAll("\\b(int|boolean) ", "") + ")");
        }
        CHECK.so("README's table has the document's calls, not " + shown, !face.isEmpty() && shown.equals(face));
    }

    private static void refusalsOfTheTable(String readme) throws Exception {
        Map<String, Method> methods = new HashMap<>();
        for (Method method : SwornLane.class.getDeclaredMethods()) {
            if (Modifier.isPublic(method.getModifiers())) {
                methods.put(method.getName(), method);
            }
        }
        Matcher row = CALL_ROW.matcher(readme);
        while (row.find()) {
            String call = row.group(1);
            Method method = methods.get(call.substring(0, call.indexOf('(')));
            TreeSet<String> told = new TreeSet<>();
            for (String refusal : row.group(2).trim().split(", ")) {
                if (!refusal.isEmpty()) {
                    told.add(refusal);
                }
            }
            TreeSet<String> seen = new TreeSet<>();
            callWithAll(method, new Object[method.getParameterCount()], 0, seen);
            CHECK.so("README tells that " + call + " is refused with " + told + ", seen is " + seen, told.equals(seen));
        }
    }

    private static void callWithAll(Method method, Object[] arguments, int next, TreeSet<String> seen)
            throws Exception {
        if (next == arguments.length) {
            for (int state = 0; state < STATES; state++) {
                note(((Number) method.invoke(inState(state), arguments)).longValue(), seen);
            }
        } else if (method.getParameterTypes()[next] == boolean.class) {
            arguments[next] = true;
            callWithAll(method, arguments, next + 1, seen);
        } else {
            for (int number : NUMBERS) {
                arguments[next] = number;
                callWithAll(method, arguments, next + 1, seen);
            }
        }
    }

    /** New; with a fault; with an act that can not be; with all full. */
    private static SwornLane inState(int state) {
        SwornLane lane = Check.saying(new String[] {"", "wa", "waa", "p".repeat(60)}[state]);
        for (int i = 0; state == 3 && i < 12; i++) {
            lane.rule(0, 0, 1);
            lane.swore(0, 0, 0, true);
        }
        return lane;
    }

    private static void note(long answer, TreeSet<String> seen) {
        long refusal = answer < SwornLane.GONE / 2 ? answer - SwornLane.GONE : answer;
        if (refusal < 0 && refusal >= -5) {
            seen.add(REFUSALS[(int) -refusal]);
        }
    }

    /** "answer, the first of these that fits": README's table must have the document's order and numbers. */
    private static void refusalsInOrder(String readme, String document) {
        StringBuilder shown = new StringBuilder();
        Matcher row = CONSTANT_ROW.matcher(readme);
        while (row.find()) {
            shown.append(row.group(1)).append(' ').append(row.group(2)).append(' ');
        }
        StringBuilder due = new StringBuilder();
        String terms = document.substring(document.indexOf("Calls that are refused answer"));
        Matcher refusal = DOCUMENT_REFUSAL.matcher(terms.substring(0, terms.indexOf("where a call names them")));
        while (refusal.find()) {
            due.append(refusal.group(1)).append(' ').append(refusal.group(2)).append(' ');
        }
        CHECK.so("README's refusals are " + due + "not " + shown, shown.toString().equals(due.toString()));
    }

    private static void everyTestIsNamed(String readme) throws IOException {
        try (DirectoryStream<Path> files = Files.newDirectoryStream(TESTS, "*Test.java")) {
            for (Path file : files) {
                String name = file.getFileName().toString().replace(".java", "");
                CHECK.so("README names " + name, readme.contains(name));
            }
        }
    }
}
