import java.io.IOException;
import java.nio.file.Files;
import java.nio.file.Path;
import java.util.stream.Stream;

/** .ci/run, as README.md tells of it, in a small project of its own with small tests of its own. */
final class RunScriptTest {
    private static final String PASSES = "System.out.println(new DeflateEffort(1, 1).told(0));";
    private static final String FAILS = "System.exit(1);";
    private static final String DOES_NOT_COMPILE = "new DeflateEffort();";

    private static Path work;
    private static Path temporary;

    public static void main(String[] args) throws IOException, InterruptedException {
        passes();
        failsByAnyTest();
        failsByNothing();
        Check.end();
    }

    private static void passes() throws IOException, InterruptedException {
        begin();
        projectTest("OneTest", PASSES);
        projectTest("OtherTest", PASSES);
        projectTest("Helper", FAILS);
        sharedTest("Runs", PASSES);
        sharedTest("MoreRuns", PASSES);
        ends("all tests pass", true, "ok   OneTest", "ok   OtherTest", "ok   Runs", "ok   MoreRuns");
    }

    private static void failsByAnyTest() throws IOException, InterruptedException {
        for (String body : new String[] {FAILS, DOES_NOT_COMPILE}) {
            begin();
            projectTest("OneTest", body);
            projectTest("OtherTest", PASSES);
            sharedTest("Runs", PASSES);
            ends("a test of the project: " + body, false, "ok   Runs");
            begin();
            projectTest("OneTest", PASSES);
            sharedTest("Runs", body);
            sharedTest("Second", PASSES);
            ends("a test under ../shared/tests: " + body, false, "ok   OneTest", "ok   Second");
        }
    }

    private static void failsByNothing() throws IOException, InterruptedException {
        begin();
        projectTest("OneTest", PASSES);
        ends("no test under ../shared/tests", false, "ok   OneTest");
    }

    private static void begin() throws IOException {
        work = Files.createTempDirectory("script");
        temporary = Files.createDirectory(work.resolve("temporary"));
        Files.createDirectories(work.resolve("shared/tests"));
        Files.createDirectories(work.resolve("main/.ci"));
        Files.createDirectories(work.resolve("main/src/test/java"));
        Files.createDirectories(work.resolve("main/src/main/java"));
        copy(".ci/run");
        copy("src/main/java/DeflateEffort.java");
    }

    private static void copy(String file) throws IOException {
        Files.copy(Path.of(file), work.resolve("main").resolve(file));
    }

    private static void projectTest(String name, String body) throws IOException {
        write("main/src/test/java", name, body);
    }

    private static void sharedTest(String name, String body) throws IOException {
        write("shared/tests", name, body);
    }

    private static void write(String directory, String name, String body) throws IOException {
        Files.writeString(work.resolve(directory).resolve(name + ".java"),
                "final class " + name + " { public static void main(String[] args) { " + body + " } }\n");
    }

    private static void ends(String what, boolean well, String... lines) throws IOException, InterruptedException {
        Shell.Ended ended = Shell.run(work, temporary, "bash main/.ci/run");
        Check.holds(what + ": .ci/run ended by " + ended.code() + "\n" + ended.printed(), (ended.code() == 0) == well);
        for (String line : lines) {
            Check.holds(what + ": .ci/run did not print " + line, ended.printed().lines().anyMatch(line::equals));
        }
        try (Stream<Path> left = Files.list(temporary)) {
            Check.same(what + ": what .ci/run leaves behind", left.count(), 0);
        }
        Shell.remove(work);
    }
}
