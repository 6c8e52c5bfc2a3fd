import java.io.IOException;
import java.lang.reflect.Method;
import java.lang.reflect.Modifier;
import java.net.URL;
import java.net.URLClassLoader;
import java.nio.file.Files;
import java.nio.file.Path;
import java.util.ArrayList;
import java.util.List;
import java.util.Set;
import java.util.TreeSet;
import java.util.regex.Matcher;
import java.util.regex.Pattern;
import java.util.stream.Stream;

/** README.md: its examples are compiled as they stand there, and each call must answer what stands behind it. */
final class ReadmeTest {
    // A call, and behind it what it answers, perhaps with words behind a colon.
    private static final Pattern ANSWERED = Pattern.compile("((?:x\\.|typeText\\(|answerText\\().*);\\s+// (.+?)(?:: .*)?");
    private static final String CALLS = "import java.util.List;\nimport java.util.ArrayList;\npublic final class ReadmeCalls {\n"
        + "private static final List<String[]> ROWS = new ArrayList<>();\n"
        + "private static void put(String call, boolean got, boolean want) { row(call, \"\" + got, \"\" + want); }\n"
        + "private static void put(String call, long got, long want) { row(call, \"\" + got, \"\" + want); }\n"
        + "private static void put(String call, String got, String want) { row(call, got, want); }\n"
        + "private static void row(String call, String got, String want) { ROWS.add(new String[] {call, got, want}); }\n";

    private final Due due = new Due();
    private final List<String> lines;
    private int answered = 0;

    private ReadmeTest(List<String> lines) {
        this.lines = lines;
    }

    public static void main(String[] args) throws Exception {
        ReadmeTest test = new ReadmeTest(Files.readAllLines(Path.of("README.md")));
        test.examples();
        test.everyCallIsShown();
        test.tables();
        test.runningTheTests();
        test.due.finish();
    }

    private void examples() throws Exception {
        Path folder = Files.createTempDirectory("readme");
        try {
            Path source = folder.resolve("ReadmeCalls.java");
            Files.writeString(source, callsOf(blocks()));
            String here = System.getProperty("java.class.path");
            ProcessBuilder compiler = new ProcessBuilder("javac", "-cp", here, "-d", folder.toString(), source.toString());
            int end = compiler.inheritIO().start().waitFor();
            due.same("compiling the examples of README.md", end, 0);
            if (end == 0) {
                compare(folder);
            }
        } finally {
            remove(folder);
        }
    }

    private void compare(Path folder) throws Exception {
        try (URLClassLoader loader = new URLClassLoader(new URL[] {folder.toUri().toURL()})) {
            List<?> rows = (List<?>) loader.loadClass("ReadmeCalls").getMethod("rows").invoke(null);
            due.same("calls made", rows.size(), answered);
            for (Object row : rows) {
                String[] parts = (String[]) row;
                due.same("README.md, " + parts[0], parts[1], parts[2]);
            }
        }
    }

    /** The blocks of Java in README.md, line by line. */
    private List<List<String>> blocks() {
        List<List<String>> blocks = new ArrayList<>();
        List<String> block = null;
        for (String line : lines) {
            if (line.equals("```java")) {
                block = new ArrayList<>();
                blocks.add(block);
            } else if (line.equals("```")) {
                block = null;
            } else if (block != null) {
                block.add(line);
            }
        }
        due.holds("there are examples: " + blocks.size(), blocks.size() >= 2);
        return blocks;
    }

    /** A class with the helping methods, and with a method for each example that makes its calls. */
    private String callsOf(List<List<String>> blocks) {
        StringBuilder source = new StringBuilder(CALLS);
        StringBuilder all = new StringBuilder();
        for (int k = 0; k < blocks.size(); k++) {
            List<String> block = blocks.get(k);
            if (!block.get(0).startsWith("PrunedSearch x")) {
                source.append(String.join("\n", block)).append('\n');
                continue;
            }
            source.append("private static void example").append(k).append("() {\n");
            for (String line : block) {
                source.append(checked(line)).append('\n');
            }
            source.append("}\n");
            all.append("example").append(k).append("();\n");
        }
        return source.append("public static List<String[]> rows() {\n").append(all).append("return ROWS;\n}\n}\n").toString();
    }

    private String checked(String line) {
        Matcher matcher = ANSWERED.matcher(line);
        if (!matcher.matches()) {
            boolean silent = line.equals("PrunedSearch x = new PrunedSearch();") || line.equals("x.forget();");
            due.holds("README.md, an answer behind: " + line, silent);
            return line;
        }
        answered++;
        String call = matcher.group(1);
        return "put(\"" + call.replace("\"", "\\\"") + "\", " + call + ", " + matcher.group(2) + ");";
    }

    private void everyCallIsShown() {
        String examples = String.join("\n", lines);
        for (Method method : PrunedSearch.class.getDeclaredMethods()) {
            if (Modifier.isPublic(method.getModifiers())) {
                String name = method.getName();
                due.holds("README.md, an example with x." + name, examples.contains("\nx." + name + "("));
                due.holds("README.md, " + name + " in the table", examples.contains("\n| `" + name + "("));
            }
        }
    }

    /** The tables tell of every class inside, and of every test, and of no others. */
    private void tables() throws IOException {
        Set<String> inside = new TreeSet<>();
        for (Class<?> one : PrunedSearch.class.getDeclaredClasses()) {
            inside.add(one.getSimpleName());
        }
        due.same("README.md, the classes", told("| class |").toString(), inside.toString());
        Set<String> tests = new TreeSet<>();
        try (Stream<Path> files = Files.list(Path.of("src/test/java"))) {
            files.map(file -> file.getFileName().toString()).filter(name -> name.endsWith("Test.java"))
                .forEach(name -> tests.add(name.replace(".java", "")));
        }
        due.same("README.md, the tests", told("| test |").toString(), tests.toString());
    }

    /** The names in the first column of the table with this head. */
    private Set<String> told(String head) {
        Set<String> names = new TreeSet<>();
        boolean inTable = false;
        for (String line : lines) {
            inTable = line.startsWith(head) || inTable && line.startsWith("|");
            Matcher name = Pattern.compile("`(\\w+)`").matcher(inTable ? line.split("\\|")[1] : "");
            while (name.find()) {
                names.add(name.group(1));
            }
        }
        return names;
    }

    private void runningTheTests() throws IOException {
        due.holds("README.md tells of .ci/run", lines.contains("    .ci/run"));
        due.holds(".ci/run can be run", Files.isExecutable(Path.of(".ci/run")));
        String script = Files.readString(Path.of(".ci/run"));
        for (String shown : new String[] {"src/test/java/*Test.java", "../shared/tests"}) {
            due.holds("README.md tells of " + shown, String.join("\n", lines).contains("`" + shown + "`"));
            due.holds(".ci/run uses " + shown, script.contains(shown));
        }
    }

    private static void remove(Path folder) throws IOException {
        try (Stream<Path> files = Files.list(folder)) {
            for (Path file : files.toList()) {
                Files.delete(file);
            }
        }
        Files.delete(folder);
    }
}
