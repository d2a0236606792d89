import java.io.IOException;
import java.lang.reflect.Field;
import java.lang.reflect.Method;
import java.lang.reflect.Modifier;
import java.nio.file.Files;
import java.nio.file.Path;
import java.util.ArrayList;
import java.util.Comparator;
import java.util.List;
import java.util.Set;
import java.util.TreeSet;
import java.util.regex.Matcher;
import java.util.regex.Pattern;
import java.util.stream.Stream;

/** README.md against the project: its program, its commands, its names, and what it says of .ci/run. */
public final class ReadmeTest {
    private static final Path CLASS = Path.of("src/main/java/FontInstancer.java");
    private static final Path TESTS = Path.of("src/test/java");
    private static final Pattern BLOCK = Pattern.compile("(?ms)^```(\\w+)\\n(.*?)^```$");
    private static final Pattern NAME = Pattern.compile("`([^`\\n]+)`");
    private static final Set<String> PROGRAMS = Set.of("java", "javac");

    private ReadmeTest() {
    }

    public static void main(String[] args) throws IOException, InterruptedException {
        String readme = Files.readString(Path.of("README.md"));
        Path folder = Files.createTempDirectory("readme");
        try {
            commands(readme, folder.resolve("copy"));
            // A folder for temporary files may forbid to execute what lies in it.
            refusals(folder, "bash " + blocks(readme, "sh").get(1));
        } finally {
            delete(folder);
        }
        names(readme);
        testsOfTheProject(readme);
        Check.end("ReadmeTest");
    }

    private static List<String> blocks(String readme, String kind) {
        List<String> result = new ArrayList<>();
        Matcher matcher = BLOCK.matcher(readme);
        while (matcher.find()) {
            if (matcher.group(1).equals(kind)) {
                result.add(matcher.group(2));
            }
        }
        return result;
    }

    /** The program and the commands, as they stand there, in a copy of the project. */
    private static void commands(String readme, Path root) throws IOException, InterruptedException {
        List<String> commands = blocks(readme, "sh");
        Check.due("commands in README.md", commands.size(), 3);
        Check.dueText("the command for all tests", commands.get(1), ".ci/run\n");
        Check.due(".ci/run is executable", Files.isExecutable(Path.of(".ci/run")) ? 1 : 0, 1);

        SmallProject use = new SmallProject("the use that README.md shows", root.resolve("use"));
        use.write("project/Use.java", blocks(readme, "java").get(0));
        SmallProject oneTest = new SmallProject("one test by itself", root.resolve("oneTest"));
        Files.createSymbolicLink(root.resolve("oneTest/shared"), Path.of("../shared").toRealPath());
        use.write("project/" + CLASS, Files.readString(CLASS));
        oneTest.write("project/" + CLASS, Files.readString(CLASS));
        for (Path test : files()) {
            oneTest.write("project/" + test, Files.readString(test));
        }
        use.ends(commands.get(0), true);
        Check.dueText("what the program prints", use.printed(), blocks(readme, "text").get(0));
        oneTest.ends(commands.get(2), true);
        String wanted = "ExamplesTest: \\d+ checks, 0 wrong\n";
        Check.dueText("what one test prints", oneTest.printed().matches(wanted) ? wanted : oneTest.printed(), wanted);
    }

    /** The names in README.md are those of the face, of the tests and of files, and none of the face is missing. */
    private static void names(String readme) throws IOException {
        TreeSet<String> face = new TreeSet<>();
        for (Method method : FontInstancer.class.getDeclaredMethods()) {
            if (Modifier.isPublic(method.getModifiers())) {
                face.add(method.getName());
            }
        }
        for (Field field : FontInstancer.class.getFields()) {
            face.add(field.getName());
        }
        TreeSet<String> named = new TreeSet<>();
        Matcher matcher = NAME.matcher(BLOCK.matcher(readme).replaceAll(""));
        while (matcher.find()) {
            String name = matcher.group(1);
            if (face.contains(name)) {
                named.add(name);
            } else if (name.contains(";")) {
                readsLocation(name);
            } else {
                boolean known = PROGRAMS.contains(name) || name.equals("Use.java") || isFile(name);
                Check.dueText("a name in README.md", known ? name : "unknown", name);
            }
        }
        Check.dueText("names of the face in README.md", named.toString(), face.toString());
    }

    private static void readsLocation(String text) {
        FontInstancer font = new FontInstancer();
        font.addAxis(100, 400, 900);
        font.addAxis(-90, 0, 90);
        for (char character : text.toCharArray()) {
            font.type(character);
        }
        Check.due("items in " + text, font.readLocation(), 2);
    }

    /** Whether there is such a file or folder, or such a test; a star stands for any letters. */
    private static boolean isFile(String name) throws IOException {
        if (Files.exists(Path.of(name))) {
            return true;
        }
        Pattern pattern = Pattern.compile("(.*/)?" + name.replace(".", "\\.").replace("*", "\\w+") + "(\\.java)?");
        return files().stream().anyMatch(file -> pattern.matcher(file.toString()).matches());
    }

    private static List<Path> files() throws IOException {
        try (Stream<Path> all = Files.list(TESTS)) {
            return all.filter(file -> file.toString().endsWith(".java")).sorted().toList();
        }
    }

    /** Each test is named in the list of tests, and there is none whose name does not end in Test. */
    private static void testsOfTheProject(String readme) throws IOException {
        String list = readme.substring(readme.indexOf("The tests of the project:"));
        for (Path file : files()) {
            String name = file.getFileName().toString().replace(".java", "");
            boolean runs = Files.readString(file).contains("\n    public static void main(");
            Check.due(name + " is run as a test", name.endsWith("Test") ? 1 : 0, runs ? 1 : 0);
            if (runs) {
                Check.due(name + " is named in README.md", list.contains("`" + name + "`") ? 1 : 0, 1);
            }
        }
    }

    /** What the command has to refuse, each in a project of its own; the first one is to pass. */
    private static void refusals(Path folder, String command) throws IOException, InterruptedException {
        String own = "project/" + TESTS;
        String shared = "shared/tests";
        small(folder, "all tests pass").test(own, "SecondTest", 0).test(shared, "SharedRuns2", 0)
                .ends(command, true, "FirstTest ran", "SecondTest ran", "SharedRuns1 ran", "SharedRuns2 ran",
                        "4 passed, 0 failed");
        small(folder, "one of the project fails").test(own, "SecondTest", 1)
                .ends(command, false, "FirstTest ran", "FAILED: SecondTest", "SharedRuns1 ran", "2 passed, 1 failed");
        small(folder, "one under ../shared/tests fails").test(shared, "SharedRuns2", 1)
                .ends(command, false, "FirstTest ran", "SharedRuns1 ran", "FAILED: SharedRuns2", "2 passed, 1 failed");
        small(folder, "one of the project does not compile").write(own + "/Helper.java", "class Helper")
                .ends(command, false, "FAILED: the project does not compile");
        small(folder, "one under ../shared/tests does not compile").write(shared + "/SharedRuns2.java", "class")
                .ends(command, false, "SharedRuns1 ran", "FAILED: SharedRuns2 does not compile", "2 passed, 1 failed");
        small(folder, "one has another name").test(own, "Second", 0)
                .ends(command, false, "FAILED: of 3 tests, some were left out", "2 passed, 1 failed");
        small(folder, "one is in another folder").test(shared + "/more", "SharedRuns2", 0)
                .ends(command, false, "FAILED: of 3 tests, some were left out", "2 passed, 1 failed");
        new SmallProject("none is under ../shared/tests", folder.resolve("none")).test(own, "FirstTest", 0)
                .ends(command, false, "FAILED: there is no test under ../shared/tests", "1 passed, 1 failed");
    }

    private static SmallProject small(Path folder, String label) throws IOException {
        return new SmallProject(label, folder.resolve(label.replaceAll("\\W+", "_")))
                .test("project/" + TESTS, "FirstTest", 0).test("shared/tests", "SharedRuns1", 0);
    }

    private static void delete(Path folder) throws IOException {
        try (Stream<Path> all = Files.walk(folder)) {
            for (Path path : all.sorted(Comparator.reverseOrder()).toList()) {
                Files.delete(path);
            }
        }
    }
}
