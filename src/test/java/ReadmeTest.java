import java.io.IOException;
import java.net.URL;
import java.net.URLClassLoader;
import java.nio.file.Files;
import java.nio.file.Path;
import java.util.ArrayList;
import java.util.List;
import java.util.TreeSet;
import java.util.regex.Matcher;
import java.util.regex.Pattern;

/**
 * What README.md shows of using the class compiles and answers as it says: each of its Java blocks is made a method,
 * in which a line with "// answers X" or "// throws X" is looked at. Run in the project's directory.
 */
public final class ReadmeTest {
    private static final Path PAGE = Path.of("README.md");
    private static final Path TESTS = Path.of("src/test/java");
    private static final Pattern CODE = Pattern.compile("(.*;)\\s*(?://\\s*(.*))?");
    private static final Pattern DUE = Pattern.compile("(answers|throws) ([\\w.]+)(?::.*)?");
    private static final Pattern NAMED = Pattern.compile("int (\\w+) = .*;");
    private static final Pattern TABLE_ROW = Pattern.compile("\\| `(\\w+)` \\|.*");

    private ReadmeTest() {
    }

    public static void main(String[] args) throws Exception {
        List<String> page = Files.readAllLines(PAGE);
        List<List<String>> examples = blocks(page, "java");
        Check.same("examples", examples.size(), 4);
        play(examples);
        Check.same("how the tests are run", blocks(page, "sh").contains(List.of(".ci/run")), true);
        Check.same(".ci/run can be run", Files.isExecutable(Path.of(".ci/run")), true);
        Check.same("the table of tests", namedTests(page).toString(), testFiles().toString());
        Check.end();
    }

    /** The lines between a fence of a language and the next fence. */
    private static List<List<String>> blocks(List<String> page, String language) {
        List<List<String>> found = new ArrayList<List<String>>();
        List<String> open = null;
        for (String line : page) {
            if (open != null && line.equals("```")) {
                found.add(open);
                open = null;
            } else if (open != null) {
                open.add(line);
            } else if (line.equals("```" + language)) {
                open = new ArrayList<String>();
            }
        }
        return found;
    }

    private static void play(List<List<String>> examples) throws Exception {
        Path directory = Files.createTempDirectory("readme");
        try {
            Path source = directory.resolve("Example.java");
            Files.write(source, program(examples));
            int result = new ProcessBuilder("javac", "--release", "17", "-cp", System.getProperty("java.class.path"),
                    "-d", directory.toString(), source.toString()).inheritIO().start().waitFor();
            Check.same("compiling the examples", result, 0);
            if (result == 0) {
                compare(outcomes(directory));
            }
        } finally {
            delete(directory);
        }
    }

    private static void compare(List<String[]> outcomes) {
        Check.same("lines with an answer or an exception", outcomes.size() > 50, true);
        for (String[] outcome : outcomes) {
            Check.same(outcome[0], outcome[1], outcome[2]);
        }
    }

    /** For each line that is looked at: the line, what came, and what is due. */
    private static List<String[]> outcomes(Path directory) throws Exception {
        List<String[]> outcomes = new ArrayList<String[]>();
        try (URLClassLoader loader = new URLClassLoader(new URL[] {directory.toUri().toURL()})) {
            loader.loadClass("Example").getMethod("play", List.class).invoke(null, outcomes);
        }
        return outcomes;
    }

    private static List<String> program(List<List<String>> examples) {
        List<String> text = new ArrayList<String>();
        text.add("public class Example {");
        text.add("public static void play(java.util.List<String[]> outcomes) {");
        for (int e = 0; e < examples.size(); e++) {
            text.add("play" + e + "(outcomes);");
        }
        text.add("}");
        for (int e = 0; e < examples.size(); e++) {
            text.add("private static void play" + e + "(java.util.List<String[]> outcomes) {");
            for (String line : examples.get(e)) {
                addLine(text, line);
            }
            text.add("}");
        }
        text.add("}");
        return text;
    }

    private static void addLine(List<String> text, String line) {
        Matcher code = CODE.matcher(line);
        if (!code.matches()) {
            Check.same("an example's line", line, "code; // a comment");
            return;
        }
        String statement = code.group(1);
        Matcher due = DUE.matcher(code.group(2) == null ? "" : code.group(2));
        if (!due.matches()) {
            text.add(statement);
        } else if (due.group(1).equals("throws")) {
            text.add("try {");
            text.add(statement);
            text.add(outcome(line, "\"nothing\"", quoted(due.group(2))));
            text.add("} catch (RuntimeException thrown) {");
            text.add(outcome(line, "thrown.getClass().getSimpleName()", quoted(due.group(2))));
            text.add("}");
        } else {
            Matcher named = NAMED.matcher(statement);
            boolean isNamed = named.matches();
            if (isNamed) {
                text.add(statement);
            }
            String call = isNamed ? named.group(1) : statement.substring(0, statement.length() - 1);
            text.add(outcome(line, "String.valueOf(" + call + ")", "String.valueOf(" + due.group(2) + ")"));
        }
    }

    private static String outcome(String line, String got, String due) {
        return "outcomes.add(new String[] {" + quoted(line) + ", " + got + ", " + due + "});";
    }

    private static String quoted(String text) {
        return "\"" + text.replace("\\", "\\\\").replace("\"", "\\\"") + "\"";
    }

    private static TreeSet<String> namedTests(List<String> page) {
        TreeSet<String> names = new TreeSet<String>();
        for (String line : page) {
            Matcher row = TABLE_ROW.matcher(line);
            if (row.matches()) {
                names.add(row.group(1));
            }
        }
        return names;
    }

    private static TreeSet<String> testFiles() throws IOException {
        TreeSet<String> names = new TreeSet<String>();
        for (Path file : list(TESTS)) {
            String name = file.getFileName().toString();
            if (name.endsWith("Test.java")) {
                names.add(name.substring(0, name.length() - ".java".length()));
            }
        }
        return names;
    }

    private static List<Path> list(Path directory) throws IOException {
        List<Path> files = new ArrayList<Path>();
        try (var stream = Files.list(directory)) {
            stream.forEach(files::add);
        }
        return files;
    }

    private static void delete(Path directory) throws IOException {
        for (Path file : list(directory)) {
            Files.delete(file);
        }
        Files.delete(directory);
    }
}
