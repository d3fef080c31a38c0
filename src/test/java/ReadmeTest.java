import java.io.File;
import java.io.IOException;
import java.nio.file.Files;
import java.nio.file.Path;
import java.util.List;

/** The program that README.md shows is compiled as it stands there, and prints what stands there. */
public final class ReadmeTest {
    public static void main(String[] args) throws IOException, InterruptedException {
        String readme = Files.readString(Path.of("README.md"));
        String due = block(readme, "text");
        Path folder = Files.createTempDirectory("readme");
        Path source = folder.resolve("Paper.java");
        Files.writeString(source, block(readme, "java"));
        // the class that is tested is found where this test found it
        String where = System.getProperty("java.class.path");
        String said = printed("javac", "-cp", where, "-d", folder.toString(), source.toString());
        String got = said + printed("java", "-cp", folder + File.pathSeparator + where, "Paper");
        for (Path file : List.of(folder.resolve("Paper.class"), source, folder)) {
            Files.deleteIfExists(file);
        }
        boolean right = !due.isEmpty() && got.equals(due);
        System.out.println("ReadmeTest: " + (right ? "all as due" : "README.md says\n" + due + "but the program prints\n" + got));
        if (!right) {
            System.exit(1);
        }
    }

    /** The lines of the first block of that kind. */
    private static String block(String readme, String kind) {
        String begin = "```" + kind + "\n";
        int from = readme.indexOf(begin);
        int to = readme.indexOf("```\n", from + begin.length());
        return from < 0 || to < 0 ? "" : readme.substring(from + begin.length(), to);
    }

    /** What it says beside its output, such as options that the environment gives, counts for nothing. */
    private static String printed(String... command) throws IOException, InterruptedException {
        Process process = new ProcessBuilder(command).redirectError(ProcessBuilder.Redirect.INHERIT).start();
        String text = new String(process.getInputStream().readAllBytes()).replace("\r\n", "\n");
        return process.waitFor() == 0 ? text : text + "exit code " + process.exitValue() + "\n";
    }
}
