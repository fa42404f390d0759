import java.io.File;
import java.nio.file.Path;

/** What a command printed, and its exit code. */
final class Outcome {
    final String text;
    final int code;

    private Outcome(String text, int code) {
        this.text = text;
        this.code = code;
    }

    static Outcome of(Path directory, String... command) throws Exception {
        Process process = new ProcessBuilder(command).directory(directory.toFile()).redirectErrorStream(true).start();
        process.getOutputStream().close();
        String text = new String(process.getInputStream().readAllBytes());
        return new Outcome(text, process.waitFor());
    }

    static void delete(Path directory) {
        delete(directory.toFile());
    }

    private static void delete(File file) {
        File[] inside = file.listFiles();
        if (inside != null) {
            for (File one : inside) {
                delete(one);
            }
        }
        file.delete();
    }
}
