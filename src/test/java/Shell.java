import java.io.IOException;
import java.nio.file.Files;
import java.nio.file.Path;
import java.util.Comparator;
import java.util.List;
import java.util.stream.Stream;

/** Runs commands as they would be typed. */
final class Shell {
    private Shell() {}

    record Ended(int code, String printed) {}

    /** Runs commands in a directory; what they make by mktemp is made in the other one. */
    static Ended run(Path directory, Path forTemporary, String commands) throws IOException, InterruptedException {
        ProcessBuilder builder = new ProcessBuilder("bash", "-c", commands);
        builder.directory(directory.toFile());
        builder.environment().put("TMPDIR", forTemporary.toAbsolutePath().toString());
        builder.redirectErrorStream(true);
        Process process = builder.start();
        process.getOutputStream().close();
        String printed = new String(process.getInputStream().readAllBytes());
        return new Ended(process.waitFor(), printed);
    }

    /** Removes a directory and all that is in it. */
    static void remove(Path directory) throws IOException {
        List<Path> all;
        try (Stream<Path> found = Files.walk(directory)) {
            all = found.sorted(Comparator.reverseOrder()).toList();
        }
        for (Path one : all) {
            Files.delete(one);
        }
    }
}
