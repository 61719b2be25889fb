import java.io.IOException;
import java.lang.reflect.Method;
import java.lang.reflect.Modifier;
import java.net.URL;
import java.net.URLClassLoader;
import java.nio.file.DirectoryStream;
import java.nio.file.Files;
import java.nio.file.Path;
import java.util.ArrayList;
import java.util.List;
import java.util.Set;
import java.util.TreeSet;
import java.util.regex.Matcher;
import java.util.regex.Pattern;

/**
 * What README.md says, tried: its examples are compiled as one program, changed only so that the
 * answer of each call is kept; its table and its lists are held against the class and the files.
 */
public final class ReadmeTest extends Due {
    private static final Path README = Path.of("README.md");
    private static final Path TESTS = Path.of("src/test/java");

    private static final Pattern MAKES = Pattern.compile("PointsToRounds x = new PointsToRounds\\(\\);");

    /** A call, perhaps kept in a variable, and the answer that is shown behind it. */
    private static final Pattern CALL_SHOWN =
        Pattern.compile("(?:int (\\w+) = )?(x\\.(\\w+)\\([^()]*\\));\\s*// (-?\\d+)(?:: .*)?");

    private static final Set<String> namesShown = new TreeSet<>();

    private static void want(String what, boolean fine) {
        due(what, fine ? 1 : 0, 1);
    }

    private static List<String> linesOfCode(List<String> readme) {
        List<String> code = new ArrayList<>();
        boolean inside = false;
        for (String line : readme) {
            if (line.startsWith("```")) {
                inside = line.equals("```java");
            } else if (inside && !line.isBlank()) {
                code.add(line);
            }
        }
        return code;
    }

    /** The examples as a class; got has what each call that is shown answers, in their order. */
    private static String program(List<String> code, List<String> calls, List<Integer> shown) {
        StringBuilder text = new StringBuilder("public final class Example { public static int[] got() {\n");
        StringBuilder answers = new StringBuilder();
        for (String line : code) {
            Matcher call = CALL_SHOWN.matcher(line);
            if (call.matches()) {
                String kept = call.group(1) != null ? call.group(1) : "answer" + calls.size();
                text.append("int ").append(kept).append(" = ").append(call.group(2)).append(";\n");
                answers.append(kept).append(", ");
                calls.add(call.group(2));
                namesShown.add(call.group(3));
                shown.add(Integer.valueOf(call.group(4)));
            } else {
                want("a line without an answer: " + line, MAKES.matcher(line).matches());
                text.append(line).append("\n");
            }
        }
        return text + "return new int[] {" + answers + "};\n} }\n";
    }

    private static int[] answersOf(String program, Path room) throws Exception {
        Path source = room.resolve("Example.java");
        Files.writeString(source, program);
        String classes = System.getProperty("java.class.path");
        Process javac = new ProcessBuilder("javac", "-cp", classes, "-d", room.toString(), source.toString())
            .inheritIO().start();
        if (javac.waitFor() != 0) {
            throw new IllegalStateException("the examples do not compile");
        }
        try (URLClassLoader loader = new URLClassLoader(new URL[] {room.toUri().toURL()})) {
            return (int[]) loader.loadClass("Example").getMethod("got").invoke(null);
        }
    }

    private static void delete(Path room) throws IOException {
        try (DirectoryStream<Path> files = Files.newDirectoryStream(room)) {
            for (Path file : files) {
                Files.delete(file);
            }
        }
        Files.delete(room);
    }

    private static void examples(List<String> readme) throws Exception {
        sentence("each answer that it shows");
        List<String> calls = new ArrayList<>();
        List<Integer> shown = new ArrayList<>();
        String program = program(linesOfCode(readme), calls, shown);
        want("at most 512 calls", calls.size() <= 512);
        Path room = Files.createTempDirectory("readme");
        try {
            int[] got = answersOf(program, room);
            for (int i = 0; i < got.length; i++) {
                due(calls.get(i), got[i], shown.get(i));
            }
        } finally {
            delete(room);
        }
    }

    private static void everyCallIsShown() {
        sentence("how to use the class");
        for (Method method : PointsToRounds.class.getDeclaredMethods()) {
            if (Modifier.isPublic(method.getModifiers())) {
                want(method.getName() + " is shown", namesShown.contains(method.getName()));
            }
        }
    }

    /** The number ahead of a word in the sentence on room; -1 where it has none. */
    private static int roomTold(String text, String sort) {
        Matcher told = Pattern.compile("There is room for[^.]*?(\\d+) " + sort + "\\b").matcher(text);
        return told.find() ? Integer.parseInt(told.group(1)) : -1;
    }

    private static char shapeOf(String cell) {
        return switch (cell) {
            case "NAME" -> 'n';
            case "CLASS" -> 'c';
            case "FIELD" -> 'f';
            case "STATIC" -> 'v';
            case "SIGNATURE" -> 'g';
            default -> '.';
        };
    }

    /** The table's own rows are what BoundsTest tries by the same shapes, number by number. */
    private static void table(List<String> readme) {
        sentence("the numbers of a STATEMENT");
        int kinds = 0;
        for (String line : readme) {
            Matcher row = Pattern.compile("\\| (\\d) \\| [A-Z]+ \\|((?: [A-Z.]+ \\|){5})").matcher(line);
            if (!row.matches()) {
                continue;
            }
            StringBuilder shape = new StringBuilder();
            for (String cell : row.group(2).split("\\|")) {
                shape.append(shapeOf(cell.trim()));
            }
            int kind = Integer.parseInt(row.group(1));
            due("row", kind, kinds);
            want("KIND " + kind + " is " + shape, shape.toString().equals(SHAPES[kind]));
            kinds++;
        }
        due("rows", kinds, SHAPES.length);
    }

    private static int added(String sort, PointsToRounds x) {
        int count = 0;
        for (int i = 0; i < 100; i++) {
            int answer = switch (sort) {
                case "CLASSES" -> x.cls(-1);
                case "FIELDS" -> x.field(0);
                case "METHODS" -> x.method(i / 4 % 8, i % 4);
                case "SITES" -> say(x, 0, NEW, 0, 0, 0);
                default -> say(x, 0, MOVE, 0, 0, 0);
            };
            count += answer >= 0 ? 1 : 0;
        }
        return count;
    }

    private static void room(String text) {
        sentence("there is room for");
        for (String sort : new String[] {"CLASSES", "FIELDS", "METHODS", "STATEMENTS", "SITES"}) {
            PointsToRounds x = new PointsToRounds();
            if (!sort.equals("CLASSES")) {
                added("CLASSES", x);
            }
            if (sort.equals("STATEMENTS") || sort.equals("SITES")) {
                x.method(0, 0);
            }
            due(sort, added(sort, x), roomTold(text, sort));
        }
    }

    private static void listOfTests(String text) throws IOException {
        sentence("its list of tests");
        Set<String> there = new TreeSet<>();
        try (DirectoryStream<Path> files = Files.newDirectoryStream(TESTS)) {
            for (Path file : files) {
                there.add(file.getFileName().toString().replace(".java", ""));
            }
        }
        Set<String> listed = new TreeSet<>();
        Matcher names = Pattern.compile("`(\\w+Test)`").matcher(text);
        while (names.find()) {
            listed.add(names.group(1));
        }
        want("there are " + there + ", listed are " + listed, there.equals(listed));
        want("the command is there", text.contains("\n    .ci/run\n") && Files.isExecutable(Path.of(".ci/run")));
    }

    public static void main(String[] args) throws Exception {
        List<String> readme = Files.readAllLines(README);
        String text = Files.readString(README);
        examples(readme);
        everyCallIsShown();
        table(readme);
        room(text);
        listOfTests(text);
        end();
    }
}
