import java.io.File;
import java.io.IOException;
import java.lang.reflect.Method;
import java.lang.reflect.Modifier;
import java.nio.file.Files;
import java.nio.file.Path;
import java.util.ArrayList;
import java.util.Arrays;
import java.util.Comparator;
import java.util.List;
import java.util.regex.Matcher;
import java.util.regex.Pattern;
import java.util.stream.Stream;

/**
 * What README.md shows: its rows of Java are run as one program, and each call must answer what stands behind it; its
 * commands are run, with another directory for what they make.
 */
public final class ReadmeTests extends Checks {
    private static final Pattern BLOCK = Pattern.compile("(?ms)^```(\\w+)\n(.*?)^```$");
    private static final Pattern ANSWERED = Pattern.compile("(desk\\.\\w+\\(.*\\)); +// (-?\\d+|true|false)(: .+)?");
    private static final Pattern CALL = Pattern.compile("^desk\\.");
    private static final String MADE = " out ";

    public static void main(String[] args) throws IOException, InterruptedException {
        String readme = Files.readString(Path.of("README.md"));
        Path made = Files.createTempDirectory("readme");
        try {
            List<String> rows = blocks(readme, "java");
            everyCallIsShown(String.join("\n", rows));
            runRows(rows, made);
            everyTestIsNamed(readme);
            runCommands(blocks(readme, "sh"), made);
        } finally {
            remove(made);
        }
        end();
    }

    private static List<String> blocks(String readme, String language) {
        List<String> found = new ArrayList<>();
        Matcher block = BLOCK.matcher(readme);
        while (block.find()) {
            if (block.group(1).equals(language)) found.add(block.group(2));
        }
        due("README.md has blocks of " + language, !found.isEmpty(), true);
        return found;
    }

    private static void everyCallIsShown(String rows) {
        for (Method method : HiddenDrawers.class.getDeclaredMethods()) {
            boolean shown = Pattern.compile("(?m)^desk\\." + method.getName() + "\\(").matcher(rows).find();
            if (Modifier.isPublic(method.getModifiers())) due("README.md shows " + method.getName(), shown, true);
        }
    }

    /** One row at a time, a wrong answer beside the row itself. */
    private static void runRows(List<String> blocks, Path made) throws IOException, InterruptedException {
        StringBuilder members = new StringBuilder();
        StringBuilder rows = new StringBuilder();
        for (String block : blocks) {
            if (block.startsWith("static ")) members.append(block);
            else for (String row : block.split("\n")) rows.append(asked(row)).append('\n');
        }
        String program = "public final class ReadmeRows extends Checks {\n" + members
            + "public static void main(String[] args) {\n" + rows + "end();\n}\n}\n";
        Path source = Files.writeString(made.resolve("ReadmeRows.java"), program);
        String own = System.getProperty("java.class.path");
        due("the rows compile", run("javac", "-cp", own, "-d", made.toString(), source.toString()), 0);
        due("the rows answer so", run("java", "-cp", own + File.pathSeparator + made, "ReadmeRows"), 0);
    }

    private static String asked(String row) {
        Matcher answered = ANSWERED.matcher(row);
        if (answered.matches()) {
            String shown = row.replace("\\", "\\\\").replace("\"", "\\\"");
            return "due(\"" + shown + "\", " + answered.group(1) + ", " + answered.group(2) + ");";
        }
        due("an answer stands behind: " + row, CALL.matcher(row).find(), false);
        return row;
    }

    private static void everyTestIsNamed(String readme) throws IOException {
        try (Stream<Path> files = Files.list(Path.of("src/test/java"))) {
            for (Path file : files.toList()) {
                String name = file.getFileName().toString().replace(".java", "");
                if (name.endsWith("Tests")) due("README.md names " + name, readme.contains("java -cp out " + name + "\n"), true);
            }
        }
    }

    /** Neither .ci/run nor these tests run themselves again, as they would not end. */
    private static void runCommands(List<String> blocks, Path made) throws IOException, InterruptedException {
        for (String block : blocks) {
            for (String command : block.split("\n")) {
                if (command.equals(".ci/run")) {
                    due(".ci/run can be run", Files.isExecutable(Path.of(command)), true);
                } else if (!command.equals("java -cp out ReadmeTests")) {
                    due("in README.md: " + command, run("sh", "-c", command.replace(MADE, " '" + made + "/out' ")), 0);
                }
            }
        }
    }

    /** Its exit code; what it printed is shown only if that isn't 0. */
    private static int run(String... command) throws IOException, InterruptedException {
        Process process = new ProcessBuilder(Arrays.asList(command)).redirectErrorStream(true).start();
        process.getOutputStream().close();
        String printed = new String(process.getInputStream().readAllBytes());
        int code = process.waitFor();
        if (code != 0) System.out.print(printed);
        return code;
    }

    private static void remove(Path directory) throws IOException {
        try (Stream<Path> files = Files.walk(directory)) {
            for (Path file : files.sorted(Comparator.reverseOrder()).toList()) Files.delete(file);
        }
    }
}
