import java.io.File;
import java.io.IOException;
import java.lang.reflect.Method;
import java.lang.reflect.Modifier;
import java.nio.file.Files;
import java.nio.file.Path;
import java.util.ArrayList;
import java.util.List;
import java.util.regex.Matcher;
import java.util.regex.Pattern;

/**
 * What README.md shows: its calls, compiled as they stand there and made in their order, give what it
 * says of them; its commands run; the files that it names are there.
 */
final class ReadmeTest {
    private static final String ALL_TESTS = ".ci/run\n";
    private static final Pattern MADE = Pattern.compile("DeflateEffort \\w+ = new DeflateEffort\\(.*\\);\\s+// .+");
    private static final Pattern NO_ANSWER = Pattern.compile("\\w+\\.clear\\(\\);\\s+// .+");
    private static final Pattern ANSWERED =
            Pattern.compile("(?:int (\\w+) = )?(\\w+\\.\\w+\\(.*?\\));\\s+// (-?\\d+)(?:: .+)?");
    private static final Pattern REFUSED = Pattern.compile("(\\w+\\.\\w+\\(.*?\\));\\s+// throws (\\w+): .+");

    public static void main(String[] args) throws IOException, InterruptedException {
        List<String> readme = Files.readAllLines(Path.of("README.md"));
        Path made = Files.createTempDirectory("readme");
        try {
            String calls = String.join("", fenced(readme, "java"));
            showsEveryCall(calls);
            makeCalls(calls, made);
            runCommands(fenced(readme, "sh"), made);
        } finally {
            Shell.remove(made);
        }
        namesWhatIsThere(String.join("\n", readme));
        Check.end();
    }

    /** The blocks between a line of three ticks with this word and the next line of three ticks. */
    private static List<String> fenced(List<String> lines, String word) {
        List<String> blocks = new ArrayList<>();
        StringBuilder block = null;
        for (String line : lines) {
            if (block != null && line.equals("```")) {
                blocks.add(block.toString());
                block = null;
            } else if (block != null) {
                block.append(line).append('\n');
            } else if (line.equals("```" + word)) {
                block = new StringBuilder();
            }
        }
        return blocks;
    }

    private static void showsEveryCall(String calls) {
        for (Method m : DeflateEffort.class.getDeclaredMethods()) {
            if (Modifier.isPublic(m.getModifiers())) {
                Check.holds("README.md shows no call of " + m.getName(), calls.contains("." + m.getName() + "("));
            }
        }
    }

    /** Makes a program of the calls, each with a look at its answer, and runs it. */
    private static void makeCalls(String calls, Path made) throws IOException, InterruptedException {
        StringBuilder program = new StringBuilder("final class ReadmeCalls {\n");
        program.append("public static void main(String[] args) {\n");
        for (String line : calls.lines().toList()) {
            program.append(line.isBlank() ? "" : withLook(line)).append('\n');
        }
        program.append("Check.end(); } }\n");
        Files.writeString(made.resolve("ReadmeCalls.java"), program);
        StringBuilder path = new StringBuilder(".");
        for (String part : System.getProperty("java.class.path").split(File.pathSeparator)) {
            path.append(File.pathSeparator).append(Path.of(part).toAbsolutePath());
        }
        Shell.Ended ended = Shell.run(made, made,
                "javac -cp '" + path + "' ReadmeCalls.java && java -cp '" + path + "' ReadmeCalls");
        Check.holds("the calls in README.md:\n" + ended.printed(), ended.code() == 0);
    }

    private static String withLook(String line) {
        Matcher answered = ANSWERED.matcher(line);
        Matcher refused = REFUSED.matcher(line);
        if (answered.matches()) {
            String kept = answered.group(1);
            String look = "Check.same(" + quoted(answered.group(2)) + ", %s, " + answered.group(3) + ");";
            return kept == null
                    ? String.format(look, answered.group(2))
                    : "int " + kept + " = " + answered.group(2) + "; " + String.format(look, kept);
        }
        if (refused.matches()) {
            return "Check.refuses(" + quoted(refused.group(1)) + ", " + refused.group(2) + ".class, () -> "
                    + refused.group(1) + ");";
        }
        Check.holds("README.md does not say what comes of: " + line,
                MADE.matcher(line).matches() || NO_ANSWER.matcher(line).matches());
        return line;
    }

    private static String quoted(String call) {
        return "\"" + call.replace("\\", "\\\\").replace("\"", "\\\"") + "\"";
    }

    /** Each block of commands, but for the one by which this test runs. */
    private static void runCommands(List<String> blocks, Path made) throws IOException, InterruptedException {
        Check.holds("README.md does not tell how to run all tests", blocks.contains(ALL_TESTS));
        Check.holds(".ci/run is not there, or not executable", new File(".ci/run").canExecute());
        Check.holds("README.md does not tell how to run one test", blocks.size() > 1);
        for (String block : blocks) {
            if (!block.equals(ALL_TESTS)) {
                Shell.Ended ended = Shell.run(Path.of("."), made, "set -e\n" + block);
                Check.holds("commands in README.md:\n" + block + ended.printed(), ended.code() == 0);
            }
        }
    }

    private static void namesWhatIsThere(String readme) {
        Matcher tests = Pattern.compile("`(\\w+Test|Coded|Head|Model)`").matcher(readme);
        while (tests.find()) {
            String name = tests.group(1);
            Check.holds("README.md names " + name + ", which is not there",
                    name.equals("EdgesTest") || new File("src/test/java/" + name + ".java").isFile());
        }
        Matcher paths = Pattern.compile("`((?:\\.\\./|src/|\\.ci/)[^`\\s]*)`").matcher(readme);
        while (paths.find()) {
            Check.holds("README.md names " + paths.group(1) + ", which is not there", new File(paths.group(1)).exists());
        }
    }
}
