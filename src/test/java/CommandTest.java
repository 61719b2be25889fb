import java.io.IOException;
import java.nio.charset.StandardCharsets;
import java.nio.file.Files;
import java.nio.file.Path;
import java.util.Comparator;
import java.util.List;
import java.util.stream.Collectors;
import java.util.stream.Stream;

/**
 * That .ci/run runs every test and fails if one of them does. It is tried on small projects of its
 * own, each with two tests, two tests beside it in shared, and a class without any call.
 */
public final class CommandTest extends Due {
    private static final String PASSES = "System.out.println(\"fine\");";
    private static final String FAILS = "System.exit(1);";
    private static final String THROWS = "throw new IllegalStateException();";
    private static final String NO_JAVA = "this is no Java";

    private static final List<String> TESTS = List.of("main/src/test/java/OneTest.java",
        "main/src/test/java/TwoTest.java", "shared/tests/OneRuns.java", "shared/tests/more/TwoRuns.java");

    private static final String SOURCE = "main/src/main/java/PointsToRounds.java";

    private static void write(Path file, String text) throws IOException {
        Files.createDirectories(file.getParent());
        Files.writeString(file, text);
    }

    private static String nameOf(String test) {
        return Path.of(test).getFileName().toString().replace(".java", "");
    }

    private static void writeTest(Path place, String test, String body) throws IOException {
        write(place.resolve(test), "public final class " + nameOf(test)
            + " { public static void main(String[] args) { new PointsToRounds(); " + body + " } }");
    }

    private static Path project() throws IOException {
        Path place = Files.createTempDirectory("command");
        Path command = place.resolve("main/.ci/run");
        Files.createDirectories(command.getParent());
        Files.copy(Path.of(".ci/run"), command);
        Files.createDirectories(place.resolve("main/src/test/support"));
        write(place.resolve(SOURCE), "public final class PointsToRounds { }");
        for (String test : TESTS) {
            writeTest(place, test, PASSES);
        }
        return place;
    }

    private static void delete(Path place) throws IOException {
        List<Path> all;
        try (Stream<Path> files = Files.walk(place)) {
            all = files.sorted(Comparator.reverseOrder()).collect(Collectors.toList());
        }
        for (Path path : all) {
            Files.delete(path);
        }
    }

    /** Runs the command from a place that is not the project's, and deletes the project. */
    private static void dueOf(String what, Path place, int exit, List<String> ran) throws Exception {
        Process sh = new ProcessBuilder("sh", "main/.ci/run").directory(place.toFile())
            .redirectErrorStream(true).start();
        String said = new String(sh.getInputStream().readAllBytes(), StandardCharsets.UTF_8);
        due(what, sh.waitFor(), exit);
        for (String test : TESTS) {
            int times = said.split("== " + nameOf(test) + "\n", -1).length - 1;
            due(what + ": times that " + nameOf(test) + " ran", times, ran.contains(test) ? 1 : 0);
        }
        delete(place);
    }

    private static void allPass() throws Exception {
        sentence("runs every test");
        dueOf("all pass", project(), 0, TESTS);
    }

    private static void oneDoesNot() throws Exception {
        sentence("fails if one of them does");
        for (String test : TESTS) {
            Path place = project();
            writeTest(place, test, FAILS);
            dueOf(nameOf(test) + " fails", place, 1, TESTS);
        }
        for (String body : List.of(THROWS, NO_JAVA)) {
            Path place = project();
            writeTest(place, TESTS.get(0), body);
            dueOf("a test that has " + body, place, 1, TESTS);
        }
    }

    private static void somethingIsNotThere() throws Exception {
        sentence("fails where nothing is tested");
        Path noClass = project();
        Files.delete(noClass.resolve(SOURCE));
        dueOf("no class", noClass, 1, TESTS);
        Path noOwn = project();
        delete(noOwn.resolve("main/src/test/java"));
        dueOf("no test of the project", noOwn, 1, TESTS.subList(2, 4));
        Path noShared = project();
        delete(noShared.resolve("shared"));
        dueOf("no test in shared", noShared, 1, TESTS.subList(0, 2));
    }

    public static void main(String[] args) throws Exception {
        allPass();
        oneDoesNot();
        somethingIsNotThere();
        end();
    }
}
