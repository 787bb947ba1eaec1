import java.io.IOException;
import java.nio.file.Files;
import java.nio.file.Path;
import java.util.ArrayList;
import java.util.Comparator;
import java.util.List;
import java.util.TreeSet;
import java.util.regex.Matcher;
import java.util.regex.Pattern;
import java.util.stream.Stream;

/**
 * README.md: what it says to write and to type is done word for word, in a copy of the project, and prints
 * what it says; what it names is there.
 */
public final class ReadmeTest {
    private static final Path TESTS = Path.of("src/test/java");
    /** The script that runs this test. */
    private static final String WHOLE_RUN = ".ci/run\n";

    private static final Check check = new Check();
    private static String readme;

    public static void main(String[] args) throws IOException, InterruptedException {
        readme = Files.readString(Path.of("README.md"));
        namesEveryTest();
        namesOnlyWhatIsThere();
        namesEveryCall();
        Path copy = Files.createTempDirectory("readme");
        try {
            doneWordForWord(copy);
        } finally {
            delete(copy);
        }
        check.end();
    }

    private static List<String> found(String text, String pattern) {
        List<String> parts = new ArrayList<>();
        Matcher matcher = Pattern.compile(pattern).matcher(text);
        while (matcher.find()) {
            parts.add(matcher.group(1));
        }
        return parts;
    }

    private static void namesEveryTest() throws IOException {
        check.part("the files of the tests");
        try (Stream<Path> files = Files.walk(TESTS)) {
            files.filter(Files::isRegularFile).map(file -> file.getFileName().toString()).forEach(file ->
                    check.due(file + " is named", readme.contains("`" + file.replace(".java", "") + "`"), true));
        }
        for (String name : found(readme, "`(\\w+Test)`")) {
            check.due(name + " is there", Files.exists(TESTS.resolve(name + ".java")), true);
        }
    }

    private static void namesOnlyWhatIsThere() {
        check.part("the paths");
        List<String> paths = found(readme, "`((?:src|\\.\\./shared|\\.ci)[\\w./]*)`");
        check.due("some are named", paths.size() >= 4, true);
        for (String path : paths) {
            check.due(path + " is there", Files.exists(Path.of(path)), true);
        }
    }

    private static void namesEveryCall() throws IOException {
        check.part("the calls");
        String program = Files.readString(Path.of("src/main/java/QuotaTree.java"));
        List<String> calls = found(program, "public \\w+ (\\w+\\([^)]*\\)) \\{");
        List<String> told = found(readme, "(?m)^\\| `(\\w+\\([^)]*\\))` \\|");
        check.due("calls", calls.size(), 15);
        check.due("the table has " + told, new TreeSet<>(told).equals(new TreeSet<>(calls)), true);
        check.due("BAD", readme.contains("`BAD` (" + QuotaTree.BAD + ")"), true);
        check.due("FULL", readme.contains("`FULL` (" + QuotaTree.FULL + ")"), true);
        check.due("REFUSED", readme.contains("`REFUSED` (" + QuotaTree.REFUSED + ")"), true);
    }

    private static void doneWordForWord(Path project) throws IOException, InterruptedException {
        check.part("word for word");
        copyAll(Path.of("src"), project.resolve("src"));
        Path out = Files.createDirectory(project.resolve("out"));
        String printed = "";
        int done = 0;
        Matcher blocks = Pattern.compile("(?ms)^```(\\w+)\\n(.*?)^```$").matcher(readme);
        while (blocks.find()) {
            String text = blocks.group(2);
            switch (blocks.group(1)) {
                case "java" -> Files.writeString(out.resolve("Example.java"), text);
                case "sh" -> printed = text.equals(WHOLE_RUN) ? "" : typed(text, project);
                case "text" -> check.due("printed is\n" + printed + "and said is\n" + text, printed.equals(text), true);
                default -> check.due("a block of " + blocks.group(1), false, true);
            }
            done++;
        }
        check.due("blocks", done, 6);
    }

    private static String typed(String commands, Path project) throws IOException, InterruptedException {
        Process shell = new ProcessBuilder("sh", "-e", "-c", commands)
                .directory(project.toFile()).redirectErrorStream(true).start();
        shell.getOutputStream().close();
        String printed = new String(shell.getInputStream().readAllBytes());
        check.due(commands + "printed " + printed + "and ended with", shell.waitFor(), 0);
        return printed;
    }

    private static void copyAll(Path from, Path to) throws IOException {
        try (Stream<Path> files = Files.walk(from)) {
            for (Path file : files.filter(Files::isRegularFile).toList()) {
                Path target = to.resolve(from.relativize(file));
                Files.createDirectories(target.getParent());
                Files.copy(file, target);
            }
        }
    }

    private static void delete(Path directory) throws IOException {
        try (Stream<Path> files = Files.walk(directory)) {
            for (Path file : files.sorted(Comparator.reverseOrder()).toList()) {
                Files.delete(file);
            }
        }
    }
}
