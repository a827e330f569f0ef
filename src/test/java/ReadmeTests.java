import java.io.IOException;
import java.lang.reflect.Method;
import java.net.URL;
import java.net.URLClassLoader;
import java.nio.file.Files;
import java.nio.file.Path;
import java.util.ArrayList;
import java.util.List;
import java.util.TreeSet;
import java.util.regex.Matcher;
import java.util.regex.Pattern;
import javax.tools.ToolProvider;

/** What README.md says of calls and answers is so: its code is compiled and run. */
public final class ReadmeTests {
    private static final Due due = new Due();
    private static final Pattern ANSWERED = Pattern.compile("(x\\.(\\w+)\\(.*\\)); +// (-?\\d+|true|false)(:.*)?");

    private static List<String> javaBlocks(String readme) {
        List<String> blocks = new ArrayList<>();
        Matcher m = Pattern.compile("(?s)```java\n(.*?)```").matcher(readme);
        while (m.find()) {
            blocks.add(m.group(1));
        }
        return blocks;
    }

    /** Each call with an answer behind it becomes a row of call, answer, and what stands there. */
    private static String program(String helper, String example) {
        StringBuilder b = new StringBuilder("public final class Example {\n" + helper
                + "public static void run(java.util.List<String[]> rows) {\n");
        for (String line : example.split("\n")) {
            Matcher m = ANSWERED.matcher(line);
            if (m.matches()) {
                b.append("rows.add(new String[] {\"").append(m.group(1)).append("\", \"\" + ").append(m.group(1))
                        .append(", \"").append(m.group(3)).append("\"});\n");
            } else {
                due.is("a call without its answer: " + line, line.startsWith("x."), false);
                b.append(line).append("\n");
            }
        }
        return b.append("}\n}\n").toString();
    }

    private static List<String[]> rowsOf(String program) throws Exception {
        List<String[]> rows = new ArrayList<>();
        Path built = Files.createTempDirectory("readme");
        Path source = built.resolve("Example.java");
        try {
            Files.writeString(source, program);
            int failed = ToolProvider.getSystemJavaCompiler().run(null, null, null, "-d", built.toString(),
                    "-cp", System.getProperty("java.class.path"), source.toString());
            due.is("the code of README.md is compiled", failed, 0);
            if (failed == 0) {
                try (URLClassLoader loader = new URLClassLoader(new URL[] {built.toUri().toURL()})) {
                    Method run = loader.loadClass("Example").getMethod("run", List.class);
                    run.invoke(null, rows);
                }
            }
        } finally {
            remove(built);
        }
        return rows;
    }

    private static void remove(Path built) throws IOException {
        for (String name : new String[] {"Example.java", "Example.class"}) {
            Files.deleteIfExists(built.resolve(name));
        }
        Files.deleteIfExists(built);
    }

    /** The names of the document's methods, each with the names of its parameters. */
    private static TreeSet<String> calls() throws IOException {
        TreeSet<String> calls = new TreeSet<>();
        Matcher m = Pattern.compile("(?m)^    public (?:int|boolean) (\\w+)\\(([^)]*)\\);")
                .matcher(Files.readString(Path.of("../shared/DOC.md")));
        while (m.find()) {
            calls.add(m.group(1) + "(" + m.group(2).replaceAll("\\b(int|boolean) ", "") + ")");
        }
        return calls;
    }

    public static void main(String[] args) throws Exception {
        String readme = Files.readString(Path.of("README.md"));
        List<String> blocks = javaBlocks(readme);
        due.is("blocks of code", blocks.size(), 2);
        List<String[]> rows = rowsOf(program(blocks.get(0), blocks.get(1)));
        due.is("an object's 512 calls are enough for them", rows.size() < 400, true);
        for (String[] row : rows) {
            due.is("README.md, " + row[0] + ", there " + row[2] + ", answered " + row[1], row[1].equals(row[2]), true);
        }
        TreeSet<String> listed = new TreeSet<>();
        Matcher m = Pattern.compile("(?m)^\\| `(\\w+\\([^)]*\\))` \\|").matcher(readme);
        while (m.find()) {
            due.is(m.group(1) + " is listed once", listed.add(m.group(1)), true);
        }
        due.is("the calls listed, " + listed, listed.equals(calls()), true);
        for (String call : calls()) {
            String name = call.substring(0, call.indexOf('('));
            due.is(name + " is shown", (blocks.get(0) + blocks.get(1)).contains("x." + name + "("), true);
        }
        due.end();
    }
}
