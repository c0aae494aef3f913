import java.io.IOException;
import java.io.UncheckedIOException;
import java.nio.file.Files;
import java.nio.file.Path;
import java.nio.file.StandardCopyOption;
import java.util.Comparator;
import java.util.List;
import java.util.concurrent.TimeUnit;
import java.util.stream.Collectors;
import java.util.stream.Stream;

/** A checkout of its own with a folder shared beside it, where commands run and leave nothing behind. */
final class Checkout {
    /** Commands that run in such a checkout find this in their environment. */
    static final String INSIDE = "DUELROUND_INSIDE";

    private static final int MOST_MINUTES = 15;
    private static final int FAILED_TO_END = -1000;

    private final Path root;
    private String output = "";

    Checkout() throws IOException {
        root = Files.createTempDirectory("duelround");
        Files.createDirectory(root.resolve("main"));
    }

    Path file(String name) {
        return root.resolve("main").resolve(name);
    }

    Path shared() {
        return root.resolve("shared");
    }

    /** The project's file, or folder with all in it, comes into this checkout. */
    void copy(String name) throws IOException {
        for (Path from : under(Path.of(name))) {
            Path to = file(from.toString());
            if (Files.isDirectory(from)) {
                Files.createDirectories(to);
            } else {
                Files.createDirectories(to.getParent());
                Files.copy(from, to, StandardCopyOption.COPY_ATTRIBUTES);
            }
        }
    }

    static void write(Path file, String text) throws IOException {
        Files.createDirectories(file.getParent());
        Files.writeString(file, text);
    }

    /** The exit code of a command of the shell. */
    int run(String command) throws IOException, InterruptedException {
        Path told = root.resolve("told");
        ProcessBuilder builder = new ProcessBuilder("sh", "-c", command);
        builder.directory(root.resolve("main").toFile());
        builder.environment().put(INSIDE, "1");
        builder.redirectErrorStream(true).redirectOutput(told.toFile());
        Process process = builder.start();
        boolean ended = process.waitFor(MOST_MINUTES, TimeUnit.MINUTES);
        if (!ended) {
            process.destroyForcibly().waitFor();
        }
        output = Files.readString(told);
        return ended ? process.exitValue() : FAILED_TO_END;
    }

    /** What the latest command printed. */
    String output() {
        return output;
    }

    void delete() throws IOException {
        List<Path> all = under(root);
        all.sort(Comparator.reverseOrder());
        for (Path path : all) {
            Files.delete(path);
        }
    }

    private static List<Path> under(Path path) throws IOException {
        try (Stream<Path> all = Files.walk(path)) {
            return all.collect(Collectors.toList());
        } catch (UncheckedIOException e) {
            throw e.getCause();
        }
    }
}
