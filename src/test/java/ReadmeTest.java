import java.io.File;
import java.io.IOException;
import java.lang.reflect.Method;
import java.lang.reflect.Modifier;
import java.net.URL;
import java.net.URLClassLoader;
import java.nio.file.Files;
import java.nio.file.Path;
import java.util.ArrayList;
import java.util.List;
import java.util.Set;
import java.util.TreeSet;
import java.util.regex.Matcher;
import java.util.regex.Pattern;

/** README.md: its examples answer as it says, and its way of running the tests is that of .ci/run. */
public final class ReadmeTest {
    private static final Path PAGE = Path.of("README.md");
    private static final Path SCRIPT = Path.of(".ci/run");
    private static final Path TESTS = Path.of("src/test/java");
    private static final String RUNS = "ReadmeRuns";
    private static final Pattern START = Pattern.compile("BorderBasis basis = new BorderBasis\\(\\);");
    private static final Pattern CALL = Pattern.compile("(basis\\.(\\w+)\\(.*\\));(?:\\s*// (.*))?");
    private static final Pattern SENDING = Pattern.compile("send\\(basis, \"[^\"]*\"\\);");
    private static final Pattern ANSWER = Pattern.compile("(-?\\d+(?:\\.\\d+)?|true|false|throws \\w+)(?::.*)?");
    private static final String HEAD = "public final class " + RUNS + " {\n"
        + "    public static final java.util.List<String[]> TOLD = new java.util.ArrayList<>();\n"
        + "    private static void tell(String line, String due, Object answer) {\n"
        + "        TOLD.add(new String[] {line, due, String.valueOf(answer)});\n"
        + "    }\n";

    /** The lines between two fences, and the number of the first of them. */
    private record Block(String language, int firstLine, List<String> lines) {
        String text() {
            return String.join("\n", lines);
        }
    }

    private static final Set<String> shownMethods = new TreeSet<>();
    private static int answersShown;

    private ReadmeTest() {
    }

    private static List<Block> blocks() throws IOException {
        List<Block> blocks = new ArrayList<>();
        Block open = null;
        List<String> lines = Files.readAllLines(PAGE);
        for (int k = 0; k < lines.size(); k++) {
            if (!lines.get(k).startsWith("```")) {
                if (open != null) {
                    open.lines.add(lines.get(k));
                }
            } else if (open == null) {
                open = new Block(lines.get(k).substring(3), k + 2, new ArrayList<>());
                blocks.add(open);
            } else {
                open = null;
            }
        }
        Checks.about("README.md, fences");
        Checks.due(true, open == null);
        return blocks;
    }

    /** A program of all examples; those that begin with an object are runs, the others help them. */
    private static String programOf(List<Block> blocks) {
        StringBuilder program = new StringBuilder(HEAD);
        StringBuilder main = new StringBuilder();
        for (Block block : blocks) {
            if (!block.language.equals("java")) {
                continue;
            }
            if (START.matcher(block.lines.get(0)).matches()) {
                main.append("        run").append(block.firstLine).append("();\n");
                program.append("    private static void run").append(block.firstLine).append("() {\n");
                addRun(program, block);
                program.append("    }\n");
            } else {
                program.append(block.text()).append('\n');
            }
        }
        return program.append("    public static void main(String[] args) {\n").append(main).append("    }\n}\n").toString();
    }

    private static void addRun(StringBuilder program, Block block) {
        program.append(block.lines.get(0)).append('\n');
        for (int k = 1; k < block.lines.size(); k++) {
            int number = block.firstLine + k;
            String line = block.lines.get(k);
            Checks.about("README.md, line " + number);
            Matcher call = CALL.matcher(line);
            boolean isCall = call.matches();
            Checks.due(true, isCall || SENDING.matcher(line).matches());
            if (isCall) {
                shownMethods.add(call.group(2));
                addCall(program, number, call.group(1), call.group(3));
            } else {
                program.append(line).append('\n');
            }
        }
    }

    private static void addCall(StringBuilder program, int number, String call, String comment) {
        if (comment == null) {
            Checks.due(true, call.startsWith("basis.save(") || call.startsWith("basis.restore("));
            program.append(call).append(";\n");
            return;
        }
        Matcher answer = ANSWER.matcher(comment);
        Checks.due(true, answer.matches());
        if (!answer.matches()) {
            return;
        }
        answersShown++;
        String due = answer.group(1);
        String tell = "tell(\"" + number + "\", \"" + due + "\", ";
        program.append("try {\n");
        if (due.startsWith("throws ")) {
            program.append(call).append(";\n").append(tell).append("\"nothing thrown\");\n");
        } else {
            program.append(tell).append(call).append(");\n");
        }
        program.append("} catch (RuntimeException e) {\n")
            .append(tell).append("\"throws \" + e.getClass().getSimpleName());\n}\n");
    }

    private static void checkExamples(List<Block> blocks) throws Exception {
        Path directory = Files.createTempDirectory("readme");
        Path source = directory.resolve(RUNS + ".java");
        Files.writeString(source, programOf(blocks));
        Checks.about("README.md, its examples compile");
        boolean compiled = isRunWell("javac", "-encoding", "UTF-8", "-cp", System.getProperty("java.class.path"),
            "-d", directory.toString(), source.toString());
        Checks.due(true, compiled);
        if (compiled) {
            checkAnswers(directory);
        }
        delete(directory);
    }

    private static void checkAnswers(Path directory) throws Exception {
        URL[] places = {directory.toUri().toURL()};
        try (URLClassLoader loader = new URLClassLoader(places, ReadmeTest.class.getClassLoader())) {
            Class<?> runs = loader.loadClass(RUNS);
            runs.getMethod("main", String[].class).invoke(null, (Object) new String[0]);
            List<?> told = (List<?>) runs.getField("TOLD").get(null);
            for (Object row : told) {
                String[] answer = (String[]) row;
                Checks.about("README.md, line " + answer[0]);
                Checks.due(answer[1], answer[2]);
            }
            Checks.about("README.md, all answers");
            Checks.due(answersShown, told.size());
        }
    }

    private static void checkMethods() {
        for (Method method : BorderBasis.class.getDeclaredMethods()) {
            if (Modifier.isPublic(method.getModifiers())) {
                Checks.about("README.md shows " + method.getName());
                Checks.due(true, shownMethods.contains(method.getName()));
            }
        }
    }

    /** The commands for a shell: the first is the script, the second does by hand what it does for a test. */
    private static void checkCommands(List<Block> blocks) throws Exception {
        String script = Files.readString(SCRIPT);
        Checks.about(".ci/run");
        Checks.due(true, Files.isExecutable(SCRIPT));
        Checks.due(true, script.contains("for file in ../shared/tests/*.java"));
        Checks.due(true, script.contains("for file in src/test/java/*Test.java"));
        Checks.due(true, script.contains("echo \"$passed passed, $failed failed\""));
        int shown = 0;
        for (Block block : blocks) {
            if (block.language.equals("sh")) {
                Checks.about("README.md, line " + block.firstLine);
                if (shown == 0) {
                    Checks.due("bash " + SCRIPT, block.text());
                } else {
                    checkCommandsByHand(block, script);
                }
                shown++;
            }
        }
        Checks.about("README.md, commands");
        Checks.due(2, shown);
    }

    private static void checkCommandsByHand(Block block, String script) throws Exception {
        Pattern shared = Pattern.compile("main=\\S+|javac .* \"\\$main\"|java -cp \\S+");
        int found = 0;
        Matcher command = shared.matcher(block.text());
        while (command.find()) {
            found++;
            Checks.due(true, script.contains(command.group()));
        }
        Checks.due(3, found);
        Checks.due(true, block.text().contains("classes=$(mktemp -d)"));
        Checks.due(true, isRunWell("bash", "-e", "-c", block.text() + "\nrm -r \"$classes\""));
    }

    /** Each test of the project is told, and each file that is told is there. */
    private static void checkFiles() throws IOException {
        String page = Files.readString(PAGE);
        File[] files = TESTS.toFile().listFiles();
        Checks.about("README.md, tests of the project");
        Checks.due(true, files != null);
        for (File file : files == null ? new File[0] : files) {
            if (file.getName().endsWith("Test.java")) {
                Checks.about("README.md tells of " + file.getName());
                Checks.due(true, page.contains("`" + TESTS + "/" + file.getName() + "`"));
            }
        }
        Matcher told = Pattern.compile("`((?:src|\\.\\./shared|\\.ci)[\\w./]*)`").matcher(page);
        while (told.find()) {
            Checks.about("README.md, the file " + told.group(1));
            Checks.due(true, Files.exists(Path.of(told.group(1))));
        }
    }

    /** What a command prints is shown only if it fails. */
    private static boolean isRunWell(String... command) throws IOException, InterruptedException {
        Path output = Files.createTempFile("readme", ".txt");
        Process process = new ProcessBuilder(command).redirectErrorStream(true).redirectOutput(output.toFile()).start();
        boolean well = process.waitFor() == 0;
        if (!well) {
            System.out.println(Files.readString(output));
        }
        Files.delete(output);
        return well;
    }

    private static void delete(Path directory) throws IOException {
        File[] files = directory.toFile().listFiles();
        for (File file : files == null ? new File[0] : files) {
            Files.delete(file.toPath());
        }
        Files.delete(directory);
    }

    public static void main(String[] args) throws Exception {
        List<Block> blocks = blocks();
        checkExamples(blocks);
        checkMethods();
        checkCommands(blocks);
        checkFiles();
        Checks.end();
    }
}
