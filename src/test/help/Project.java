import java.io.IOException;
import java.nio.file.Files;
import java.nio.file.Path;
import java.util.Comparator;
import java.util.List;
import java.util.stream.Collectors;
import java.util.stream.Stream;

/** A project of its own beside a ../shared of its own, in a directory that goes when it is closed. */
final class Project implements AutoCloseable {
    private final Path room;

    Project() throws IOException {
        room = Files.createTempDirectory("rings");
        Files.createDirectories(room.resolve("shared/tests"));
        copy(".ci/run", ".ci/run");
        room.resolve("main/.ci/run").toFile().setExecutable(true);
    }

    /** A file of the true project, to a place in this one. */
    void copy(String from, String to) throws IOException {
        Path target = room.resolve("main").resolve(to).normalize();
        Files.createDirectories(target.getParent());
        Files.copy(Path.of(from), target);
    }

    void copy(String file) throws IOException {
        copy(file, file);
    }

    void put(String file, String text) throws IOException {
        Path target = room.resolve("main").resolve(file).normalize();
        Files.createDirectories(target.getParent());
        Files.writeString(target, text);
    }

    String get(String file) throws IOException {
        return Files.readString(room.resolve("main").resolve(file).normalize());
    }

    /** What a command ended with, and what it printed. */
    static final class Done {
        final int code;
        final String printed;

        Done(int code, String printed) {
            this.code = code;
            this.printed = printed;
        }
    }

    Done run(String command) throws IOException, InterruptedException {
        return run("main", command);
    }

    /** Runs a command of the shell in one of the directories beside the project. */
    Done run(String directory, String command) throws IOException, InterruptedException {
        Process p = new ProcessBuilder("sh", "-e", "-c", command)
            .directory(room.resolve(directory).toFile()).redirectErrorStream(true).start();
        p.getOutputStream().close();
        String printed = new String(p.getInputStream().readAllBytes());
        return new Done(p.waitFor(), printed);
    }

    @Override
    public void close() throws IOException {
        List<Path> all;
        try (Stream<Path> found = Files.walk(room)) {
            all = found.sorted(Comparator.reverseOrder()).collect(Collectors.toList());
        }
        for (Path p : all) {
            Files.delete(p);
        }
    }
}
