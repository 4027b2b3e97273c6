import java.io.File;
import java.io.IOException;
import java.lang.reflect.Method;
import java.nio.file.Files;
import java.nio.file.Path;
import java.util.ArrayList;
import java.util.Arrays;
import java.util.Comparator;
import java.util.List;
import java.util.regex.Matcher;
import java.util.regex.Pattern;
import java.util.stream.Collectors;
import java.util.stream.Stream;

/** What README.md shows: its example and its commands are run as they stand there, and the tests it names are there. */
public final class ReadmeTest {
    private static final Path README = Path.of("README.md");
    private static final Path TESTS = Path.of("src/test/java");
    private static final String ALL_TESTS = ".ci/run";

    /** A line of the example: perhaps a variable, the call, and the answer with which the comment begins. */
    private static final Pattern ANSWERED =
            Pattern.compile("\\s*(int (\\w+) = )?(volume\\..+\\));\\s+// (-?\\d+|true|false|NONE)\\b.*");
    private static final Pattern TEST_NAME = Pattern.compile("`(\\w+Test)`");

    private ReadmeTest() {
    }

    public static void main(String[] args) throws Exception {
        List<String> lines = Files.readAllLines(README);
        Path room = Files.createTempDirectory("readme");
        try {
            example(blocks(lines, "java"), room);
            commands(blocks(lines, "sh"), room);
        } finally {
            delete(room);
        }
        everyTestIsNamed(lines);
        everyNameIsThere(lines);
        Check.end();
    }

    private static List<String> blocks(List<String> lines, String language) {
        List<String> found = new ArrayList<>();
        StringBuilder block = null;
        for (String line : lines) {
            if (block == null && line.equals("```" + language)) {
                block = new StringBuilder();
            } else if (block != null && line.equals("```")) {
                found.add(block.toString());
                block = null;
            } else if (block != null) {
                block.append(line).append('\n');
            }
        }
        return found;
    }

    private static void example(List<String> blocks, Path room) throws Exception {
        Check.same("README.md: blocks of Java", blocks.size(), 1);
        int answers = 0;
        StringBuilder body = new StringBuilder();
        for (String line : String.join("", blocks).split("\n")) {
            Matcher m = ANSWERED.matcher(line);
            answers += m.matches() ? 1 : 0;
            body.append(m.matches() ? compared(m) : line).append('\n');
        }
        Check.yes("README.md: its example has answers", answers > 10);
        Path source = room.resolve("ReadmeExample.java");
        Files.writeString(source, "public final class ReadmeExample {\n"
                + "private static void due(String call, Object got, Object due) {\n"
                + "if (!got.equals(due)) {\n"
                + "System.out.println(\"README.md: \" + call + \" answered \" + got + \", due is \" + due);\n"
                + "System.exit(1);\n}\n}\n"
                + "public static void main(String[] args) {\n" + body + "}\n}\n");
        String classes = System.getProperty("java.class.path");
        Check.same("README.md: its example compiles", exitCode(room, "javac", "-cp", classes, "-d",
                room.toString(), source.toString()), 0);
        Check.same("README.md: its example answers so", exitCode(room, "java", "-cp",
                classes + File.pathSeparator + room, "ReadmeExample"), 0);
    }

    private static String compared(Matcher m) {
        String due = m.group(4).equals("NONE") ? "FixupVolume.NONE" : m.group(4);
        String text = "\"" + m.group(3) + "\"";
        if (m.group(2) == null) {
            return "due(" + text + ", " + m.group(3) + ", " + due + ");";
        }
        return m.group(1) + m.group(3) + "; due(" + text + ", " + m.group(2) + ", " + due + ");";
    }

    /** All but the one that runs this test too. */
    private static void commands(List<String> blocks, Path room) throws Exception {
        Check.yes("README.md: it shows " + ALL_TESTS, blocks.contains(ALL_TESTS + "\n"));
        Check.yes(ALL_TESTS + " can be run", Files.isExecutable(Path.of(ALL_TESTS)));
        for (String block : blocks) {
            if (!block.contains(ALL_TESTS)) {
                Check.same("README.md: exit code of\n" + block, exitCode(room, "sh", "-e", "-c", block), 0);
            }
        }
    }

    /** Its directories for a while are made in the room, so that they go with it. */
    private static int exitCode(Path room, String... command) throws Exception {
        ProcessBuilder builder = new ProcessBuilder(command).redirectErrorStream(true);
        builder.environment().put("TMPDIR", room.toString());
        Process process = builder.start();
        String printed = new String(process.getInputStream().readAllBytes());
        int code = process.waitFor();
        if (code != 0) {
            System.out.print(printed);
        }
        return code;
    }

    private static void everyTestIsNamed(List<String> lines) throws IOException {
        String text = String.join("\n", lines);
        try (Stream<Path> files = Files.list(TESTS)) {
            for (Path file : files.collect(Collectors.toList())) {
                String name = file.getFileName().toString().replace(".java", "");
                Check.yes("README.md names " + name, text.contains("`" + name + "`"));
            }
        }
    }

    private static void everyNameIsThere(List<String> lines) {
        for (String line : lines) {
            Matcher m = TEST_NAME.matcher(line);
            while (m.find()) {
                Check.yes("README.md: " + m.group(1), Files.exists(TESTS.resolve(m.group(1) + ".java")));
            }
            if (line.startsWith("|") && line.contains("Test`")) {
                String[] cells = line.split("\\|");
                methodsAreThere(cells[cells.length - 1]);
            }
        }
    }

    /** In a cell stand groups, parted by ';': one or more tests, and then methods that each of them has. */
    private static void methodsAreThere(String cell) {
        for (String group : cell.split(";")) {
            List<String> tests = new ArrayList<>();
            for (String word : group.trim().split("[ ,]+")) {
                if (word.startsWith("`")) {
                    tests.add(word.replace("`", ""));
                } else if (!word.equals("and")) {
                    tests.forEach(test -> Check.yes("README.md: " + word + " of " + test, hasMethod(test, word)));
                }
            }
            Check.no("README.md: no test in '" + group + "'", tests.isEmpty());
        }
    }

    private static boolean hasMethod(String test, String method) {
        try {
            return Arrays.stream(Class.forName(test).getDeclaredMethods()).map(Method::getName).anyMatch(method::equals);
        } catch (ClassNotFoundException e) {
            return false;
        }
    }

    private static void delete(Path room) throws IOException {
        try (Stream<Path> files = Files.walk(room)) {
            files.sorted(Comparator.reverseOrder()).map(Path::toFile).forEach(File::delete);
        }
    }
}
