import java.io.File;
import java.nio.file.Files;
import java.nio.file.Path;
import java.util.List;
import java.util.regex.Matcher;
import java.util.regex.Pattern;
import javax.tools.ToolProvider;

/** README.md: its example compiles, each call of it answers what the comment says, and its table names every test. */
public final class ReadmeTest {
    private static final Pattern CALL = Pattern.compile(
            "\\s*(?:System.out.println\\()?(desk\\.(\\w+)\\([^)]*\\))\\)?;\\s*(?://\\s*(.*))?");
    private static final Pattern ANSWER = Pattern.compile("(-?\\d+|true|false)(:.*)?");

    public static void main(String[] args) throws Exception {
        List<String> readme = Files.readAllLines(Path.of("README.md"));
        example(readme);
        tableOfTests(readme);
        Check.finish();
    }

    /** Compiled beside this test, so that it reaches Check, and with each call turned into a check. */
    private static void example(List<String> readme) throws Exception {
        Path classes = Path.of(System.getProperty("java.class.path"));
        Path source = Files.createTempDirectory("readme").resolve("Example.java");
        Files.write(source, checked(readme));
        String[] options = {"-cp", classes.toString(), "-d", classes.toString(), source.toString()};
        int compiled = ToolProvider.getSystemJavaCompiler().run(null, null, null, options);
        Files.delete(source);
        Files.delete(source.getParent());
        Check.due("compiling the example", compiled, 0);
        if (compiled == 0) {
            Object noArguments = new String[0];
            Class.forName("Example").getMethod("main", String[].class).invoke(null, noArguments);
        }
    }

    private static List<String> checked(List<String> readme) {
        int begin = readme.indexOf("```java") + 1;
        int length = readme.subList(begin, readme.size()).indexOf("```");
        List<String> lines = readme.subList(begin, begin + length);
        return lines.stream().map(ReadmeTest::checked).toList();
    }

    private static String checked(String line) {
        Matcher call = CALL.matcher(line);
        if (!call.matches() || call.group(2).equals("keep")) {
            return line;
        }
        Matcher answer = ANSWER.matcher(call.group(3) == null ? "" : call.group(3));
        String due = answer.matches() ? answer.group(1) : "true";
        return "Check.due(\"README.md: " + call.group(1) + "\", " + call.group(1) + ", " + due + ");";
    }

    private static void tableOfTests(List<String> readme) {
        for (String file : new File("src/test/java").list()) {
            if (file.endsWith("Test.java")) {
                String row = "| " + file.replace(".java", "") + " | ";
                Check.due("README.md has a row " + row, readme.stream().anyMatch(l -> l.startsWith(row)), true);
            }
        }
    }
}
