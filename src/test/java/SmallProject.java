import java.io.IOException;
import java.nio.file.Files;
import java.nio.file.Path;

/** A folder with the project's .ci/run, an empty class and small tests, to see what .ci/run makes of them. */
final class SmallProject {
    private static final String CLASS = "src/main/java/FontInstancer.java";

    private final String label;
    private final Path root;

    SmallProject(String label, Path root) throws IOException {
        this.label = label;
        this.root = root;
        write("project/" + CLASS, "public final class FontInstancer { }");
        Path script = root.resolve("project/.ci/run");
        Files.createDirectories(script.getParent());
        Files.copy(Path.of(".ci/run"), script);
    }

    /** Adds a test that tells that it ran, and ends with this code. */
    SmallProject test(String folder, String name, int exitCode) throws IOException {
        return write(folder + "/" + name + ".java", "public final class " + name + " {\n"
                + "    public static void main(String[] args) {\n"
                + "        new FontInstancer();\n"
                + "        System.out.println(\"" + name + " ran\");\n"
                + "        System.exit(" + exitCode + ");\n    }\n}\n");
    }

    SmallProject write(String file, String text) throws IOException {
        Path path = root.resolve(file);
        Files.createDirectories(path.getParent());
        Files.writeString(path, text);
        return this;
    }

    /** Runs the command in the project's folder, and looks for the lines in what it prints. */
    void ends(String command, boolean well, String... lines) throws IOException, InterruptedException {
        Process process = new ProcessBuilder("bash", "-e", "-c", command).directory(root.resolve("project").toFile())
                .redirectOutput(root.resolve("printed").toFile())
                .redirectError(root.resolve("errors").toFile()).start();
        boolean right = (process.waitFor() == 0) == well;
        Check.dueText(label + ": ends", right ? "as due" : "with exit code " + process.exitValue() + ": "
                + Files.readString(root.resolve("errors")), "as due");
        for (String line : lines) {
            Check.dueText(label + ": prints", printed().lines().toList().contains(line) ? line : printed(), line);
        }
    }

    String printed() throws IOException {
        return Files.readString(root.resolve("printed"));
    }
}
