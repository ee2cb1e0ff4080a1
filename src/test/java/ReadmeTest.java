import java.io.File;
import java.nio.file.Files;
import java.nio.file.Path;
import java.util.ArrayList;
import java.util.List;
import java.util.concurrent.TimeUnit;
import java.util.regex.Matcher;
import java.util.regex.Pattern;
import javax.tools.ToolProvider;

/** The example in README.md compiles and answers as its comments say; the page names every call. */
final class ReadmeTest {
    private static final Pattern EXAMPLE = Pattern.compile("```java\\n(.*?)```", Pattern.DOTALL);
    private static final Pattern ANSWER = Pattern.compile("System\\.out\\.println\\((x\\..*)\\); +// (-?\\d+)\\b.*");

    public static void main(String[] args) throws Exception {
        Due due = new Due("ReadmeTest");
        String page = Files.readString(Path.of("README.md"));
        namesEveryCall(due, page);
        Matcher example = EXAMPLE.matcher(page);
        due.isTrue("an example", example.find());
        answersAsItSays(due, example.group(1));
        due.isTrue("no second example that no test looks at", !example.find());
        due.end();
    }

    private static void namesEveryCall(Due due, String page) throws Exception {
        for (String call : DocumentFace.names()) {
            due.isTrue("names " + call, page.contains("`" + call + "`"));
        }
        due.isTrue("for how many calls", page.contains("at most 512 calls"));
    }

    private static void answersAsItSays(Due due, String example) throws Exception {
        List<String> printed = printedBy(due, example);
        int line = 0;
        for (String each : example.split("\\n")) {
            Matcher answer = ANSWER.matcher(each.strip());
            due.isTrue("each printing line tells its answer: " + each, answer.matches() || !each.contains("println"));
            if (answer.matches()) {
                due.isTrue("prints " + answer.group(1), line < printed.size());
                due.is(answer.group(1), line < printed.size() ? Long.parseLong(printed.get(line)) : 0,
                    Long.parseLong(answer.group(2)));
                line++;
            }
        }
        due.isTrue("some answers", line > 0);
        due.is("lines printed", printed.size(), line);
    }

    private static List<String> printedBy(Due due, String example) throws Exception {
        Path folder = Files.createTempDirectory("readme");
        Path source = folder.resolve("Example.java");
        Path printed = folder.resolve("printed");
        Path compiled = folder.resolve("Example.class");
        Files.writeString(source, example);
        String classes = System.getProperty("java.class.path");
        int fault = ToolProvider.getSystemJavaCompiler().run(null, null, null, "--release", "17", "-Xlint:all",
            "-Werror", "-cp", classes, "-d", folder.toString(), source.toString());
        due.is("fault of the compiler", fault, 0);
        Process run = new ProcessBuilder(Path.of(System.getProperty("java.home"), "bin", "java").toString(), "-cp",
            classes + File.pathSeparator + folder, "Example").redirectErrorStream(true)
            .redirectOutput(printed.toFile()).start();
        due.isTrue("ends", run.waitFor(60, TimeUnit.SECONDS));
        due.is("exit code", run.isAlive() ? -1 : run.exitValue(), 0);
        List<String> lines = new ArrayList<>(Files.readAllLines(printed));
        for (Path each : new Path[] {source, printed, compiled, folder}) {
            Files.deleteIfExists(each);
        }
        return lines;
    }
}
