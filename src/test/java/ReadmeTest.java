import java.io.File;
import java.io.IOException;
import java.lang.reflect.Method;
import java.lang.reflect.Modifier;
import java.nio.charset.StandardCharsets;
import java.nio.file.Files;
import java.nio.file.Path;
import java.util.ArrayList;
import java.util.List;
import java.util.Set;
import java.util.TreeSet;
import java.util.regex.Matcher;
import java.util.regex.Pattern;

/** What README.md says of the class and its tests is so. Runs in the project's directory. */
public final class ReadmeTest {
    private static final Path TESTS = Path.of("src/test/java");
    private static final Path EXAMPLE = Path.of("build/readme/Example.java");
    private static final Pattern ANSWER = Pattern.compile("println\\(.*\\);\\s*// (-?\\d+)$");

    private ReadmeTest() {
    }

    public static void main(String[] args) throws IOException, InterruptedException {
        String page = Files.readString(Path.of("README.md"));
        List<String> programs = blocks(page, "java");
        List<String> commands = blocks(page, "sh");
        Check.same("README: programs", programs.size(), 1);
        Check.same("README: commands", commands.size(), 3);
        if (programs.size() == 1 && commands.size() == 3) {
            example(programs.get(0), commands.get(0));
            Check.same("README: how to run all tests", commands.get(1).trim(), ".ci/run");
            Check.same("README: .ci/run can be run", new File(".ci/run").canExecute(), true);
            oneByOne(commands.get(2));
        }
        calls(page);
        tests(page);
        Check.end();
    }

    /** The texts between a fence that names the language and the next fence. */
    private static List<String> blocks(String page, String language) {
        List<String> found = new ArrayList<>();
        Matcher fences = Pattern.compile("```" + language + "\n(.*?)```", Pattern.DOTALL).matcher(page);
        while (fences.find()) {
            found.add(fences.group(1));
        }
        return found;
    }

    /** Kept below build, so that the test leaves nothing in the project's directory. */
    private static void example(String program, String commands) throws IOException, InterruptedException {
        Files.createDirectories(EXAMPLE.getParent());
        Files.writeString(EXAMPLE, program);
        StringBuilder printed = new StringBuilder();
        for (String command : commands.trim().split("\n")) {
            printed.append(run(command.replace(" Example.java", " " + EXAMPLE)));
        }
        Check.same("README: the example", printed.toString(), said(program));
    }

    private static String run(String command) throws IOException, InterruptedException {
        Process process = new ProcessBuilder(command.split(" ")).redirectErrorStream(true).start();
        String printed = new String(process.getInputStream().readAllBytes(), StandardCharsets.UTF_8);
        Check.same("README: " + command + " ends with", process.waitFor(), 0);
        return printed.replaceAll("\\s+", " ");
    }

    private static String said(String program) {
        StringBuilder said = new StringBuilder();
        for (String row : program.split("\n")) {
            Matcher answer = ANSWER.matcher(row);
            if (answer.find()) {
                said.append(answer.group(1)).append(' ');
            } else {
                Check.same("README: no answer told: " + row, row.contains("println"), false);
            }
        }
        return said.toString();
    }

    private static void oneByOne(String commands) {
        for (String command : commands.trim().split("\n")) {
            Matcher words = Pattern.compile("java -cp build/own (\\w+Test)( \\d+)?").matcher(command);
            boolean isTest = words.matches() && Files.exists(TESTS.resolve(words.group(1) + ".java"));
            Check.same("README: runs a test: " + command, isTest, true);
        }
    }

    private static void calls(String page) {
        for (Method call : DiffWeaver.class.getDeclaredMethods()) {
            boolean isTold = !Modifier.isPublic(call.getModifiers()) || page.contains("`" + call.getName() + "`");
            Check.same("README: tells of " + call.getName(), isTold, true);
        }
    }

    /** Each test, and what tests share, is told of, and nothing else. */
    private static void tests(String page) {
        Set<String> told = new TreeSet<>();
        Matcher names = Pattern.compile("`([A-Z]\\w*)`").matcher(page);
        while (names.find()) {
            told.add(names.group(1));
        }
        Set<String> found = new TreeSet<>();
        String[] files = TESTS.toFile().list();
        for (String file : files == null ? new String[0] : files) {
            found.add(file.replace(".java", ""));
        }
        Check.same("README: the tests told of", told.toString(), found.toString());
    }
}
