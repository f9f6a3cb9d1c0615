import java.io.IOException;
import java.net.URL;
import java.net.URLClassLoader;
import java.nio.file.Files;
import java.nio.file.Path;
import java.util.ArrayList;
import java.util.List;
import java.util.Set;
import java.util.TreeSet;
import java.util.function.BiConsumer;
import java.util.function.Supplier;
import java.util.regex.Matcher;
import java.util.regex.Pattern;
import javax.tools.JavaCompiler;
import javax.tools.ToolProvider;

/**
 * The calls that README.md shows answer what it tells of them. Its Java lines are compiled as they
 * stand there, as one run; the rows of its table of faults are texts for a new object each.
 */
public final class ReadmeTests extends Checks {
    private static final Path README = Path.of("README.md");
    private static final Path TESTS = Path.of("src", "test", "java");
    private static final Path MADE = Path.of("build", "readme");

    /** A call of an object, perhaps kept under a name; behind it what it answers, and perhaps why. */
    private static final Pattern CALL = Pattern.compile(
            "(int (\\w+) = )?((?:\\w+|new RelationFinder\\(\\d+\\))\\.(\\w+)\\(.*\\)); +// ([^:]+)(: .*)?");
    /** Lines that answer nothing: a new object, and the method feed() that README.md itself has. */
    private static final Pattern SILENT = Pattern.compile(
            "RelationFinder \\w = new RelationFinder\\(\\d+\\);|feed\\(\\w, \"[^\"]*\"\\);");
    private static final Pattern FAULT = Pattern.compile(
            "\\| `([^`]+)` \\| (-?\\d+) \\| (\\d+) \\| (-?\\d+) \\| .*");

    private final List<String> lines;
    private final StringBuilder methods = new StringBuilder();
    private final StringBuilder run = new StringBuilder();
    /** What README.md tells of the call of a line; null for other lines. */
    private final String[] answers;
    private final Set<String> shown = new TreeSet<>();
    private int asked = 0;

    private ReadmeTests(List<String> lines) {
        this.lines = lines;
        this.answers = new String[lines.size()];
    }

    public static void main(String[] args) throws Exception {
        ReadmeTests tests = new ReadmeTests(Files.readAllLines(README));
        tests.gather();
        tests.makeCalls();
        tests.showsAllCalls();
        tests.tableOfFaults();
        tests.listOfTests();
        end("README.md tells what calls answer");
    }

    // ---- the Java lines

    private void gather() {
        StringBuilder block = null;
        boolean isMethods = false;
        for (int i = 0; i < lines.size(); i++) {
            String line = lines.get(i);
            if (line.startsWith("```")) {
                boolean isJava = line.equals("```java");
                isMethods = isJava && lines.get(i + 1).startsWith("static ");
                block = !isJava ? null : isMethods ? methods : run;
            } else if (block != null) {
                block.append(isMethods ? line : asked(i, line)).append('\n');
            }
        }
    }

    /** A line as it is for the run: its answer is handed out together with the line's number. */
    private String asked(int i, String line) {
        Matcher call = CALL.matcher(line);
        if (!call.matches()) {
            of("README.md:" + (i + 1));
            due("a line that is no call with its answer", line, line.isEmpty() || SILENT.matcher(line).matches() ? line : "");
            return line;
        }
        answers[i] = call.group(5).strip();
        shown.add(call.group(4));
        if (call.group(1) == null) {
            return "asked.accept(" + i + ", () -> " + call.group(3) + ");";
        }
        return line + "\nasked.accept(" + i + ", () -> " + call.group(2) + ");";
    }

    private void makeCalls() throws Exception {
        try (URLClassLoader loader = new URLClassLoader(new URL[] {compiled().toUri().toURL()})) {
            BiConsumer<Integer, Supplier<Object>> answered = this::compare;
            loader.loadClass("ReadmeRun").getMethod("run", BiConsumer.class).invoke(null, answered);
        }
        int told = 0;
        for (String answer : answers) {
            told += answer == null ? 0 : 1;
        }
        of("README.md");
        due("calls that were made", asked, told);
        due("shows calls", told > 0, true);
    }

    private Path compiled() throws IOException {
        Files.createDirectories(MADE);
        Path file = MADE.resolve("ReadmeRun.java");
        Files.writeString(file, "import java.util.function.BiConsumer;\nimport java.util.function.Supplier;\n"
                + "public final class ReadmeRun {\n" + methods
                + "public static void run(BiConsumer<Integer, Supplier<Object>> asked) {\n" + run + "}\n}\n");
        JavaCompiler compiler = ToolProvider.getSystemJavaCompiler();
        int failed = compiler.run(null, null, null, "-d", MADE.toString(),
                "-cp", System.getProperty("java.class.path"), file.toString());
        of("README.md");
        due("the compiler", failed, 0);
        return MADE;
    }

    private void compare(int i, Supplier<Object> call) {
        asked++;
        String got;
        try {
            got = String.valueOf(call.get());
        } catch (RuntimeException e) {
            got = "throws " + e.getClass().getSimpleName();
        }
        of("README.md:" + (i + 1));
        due(lines.get(i).strip(), got, answers[i]);
    }

    private void showsAllCalls() {
        Set<String> face = new TreeSet<>();
        for (java.lang.reflect.Method method : RelationFinder.class.getMethods()) {
            if (method.getDeclaringClass() == RelationFinder.class) {
                face.add(method.getName());
            }
        }
        of("README.md");
        due("calls that it shows", shown, face);
    }

    // ---- tables and lists

    /** Each kind has a row; the texts are read where edge is a relation of pairs, and root one of atoms. */
    private void tableOfFaults() {
        StringBuilder kinds = new StringBuilder();
        for (int i = 0; i < lines.size(); i++) {
            Matcher row = FAULT.matcher(lines.get(i));
            if (row.matches()) {
                Finder x = new Finder(3);
                x.relation("edge", 2);
                x.relation("root", 1);
                of("README.md:" + (i + 1));
                due("fact()", x.fact(row.group(1)), Integer.valueOf(row.group(2)));
                due("fault(false)", x.fault(false), Integer.valueOf(row.group(3)));
                due("fault(true)", x.fault(true), Integer.valueOf(row.group(4)));
                kinds.append(row.group(3));
            }
        }
        of("README.md");
        due("kinds of faults", kinds, "1234567");
    }

    /** Every test is named, and nothing is named that is no test. */
    private void listOfTests() throws IOException {
        Set<String> named = new TreeSet<>();
        for (String line : lines) {
            if (line.matches("- `\\w+Tests`: .*")) {
                named.add(line.substring(3, line.indexOf('`', 3)));
            }
        }
        Set<String> present = new TreeSet<>();
        List<Path> files = new ArrayList<>();
        try (var found = Files.list(TESTS)) {
            found.forEach(files::add);
        }
        for (Path file : files) {
            if (Files.readString(file).contains("public static void main(")) {
                present.add(file.getFileName().toString().replace(".java", ""));
            }
        }
        due("tests that it names", named, present);
    }
}
