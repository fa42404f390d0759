import java.io.IOException;
import java.nio.file.Files;
import java.nio.file.Path;
import java.util.ArrayList;
import java.util.List;
import java.util.TreeSet;
import java.util.regex.Matcher;
import java.util.regex.Pattern;

/** README.md: each call of its examples answers what is said there, and each of its commands does what is said. */
public final class ReadmeTest {
    private static final Check CHECK = new Check();
    private static final Path README = Path.of("README.md");
    private static final Path TESTS = Path.of("src/test/java");
    private static final Pattern TOLD = Pattern.compile(
            "(?:(int) (\\w+) = )?(\\w+\\.\\w+\\(.*\\));\\s*// answers (.*)");
    private static final Pattern SILENT = Pattern.compile(
            "MicrostepChart \\w+ = new MicrostepChart\\(\\);|\\w+\\.reset\\(\\);\\s*//.*");

    public static void main(String[] args) throws Exception {
        String text = Files.readString(README);
        examples(blocks(text, "java"));
        commands(blocks(text, "sh"), text);
        namedTests(text);
        namedMethods(text);
        CHECK.end("ReadmeTest");
    }

    private static List<String> blocks(String text, String language) {
        List<String> found = new ArrayList<>();
        Matcher block = Pattern.compile("(?ms)^```" + language + "\n(.*?)^```$").matcher(text);
        while (block.find()) {
            found.add(block.group(1));
        }
        return found;
    }

    /** A program that makes the calls of an example and compares each answer with the one that is told behind it. */
    private static String program(String name, String example) {
        StringBuilder code = new StringBuilder();
        code.append("public final class ").append(name).append(" {\n");
        code.append("    private static final Check CHECK = new Check();\n");
        code.append("    public static void main(String[] args) {\n");
        for (String line : example.split("\n")) {
            Matcher told = TOLD.matcher(line);
            if (told.matches()) {
                code.append(checkOf(told));
            } else {
                boolean silent = line.isBlank() || SILENT.matcher(line).matches();
                CHECK.due("README tells the answer of: " + line, silent, true);
                code.append(line).append('\n');
            }
        }
        return code.append("CHECK.end(\"").append(name).append("\");\n    }\n}\n").toString();
    }

    private static String checkOf(Matcher told) {
        String answer = told.group(4).split(": ", 2)[0];
        String call = told.group(3);
        String due = "CHECK.due(\"README: " + call + "\", ";
        if (told.group(1) == null) {
            return due + call + ", " + answer + ");\n";
        }
        String name = told.group(2);
        return told.group(1) + " " + name + " = " + call + ";\n" + due + name + ", " + answer + ");\n";
    }

    private static void examples(List<String> examples) throws Exception {
        CHECK.due("README has two examples", examples.size(), 2);
        for (int i = 0; i < examples.size(); i++) {
            String name = "Example" + i;
            Path directory = Files.createTempDirectory("readme");
            Path source = directory.resolve(name + ".java");
            Files.writeString(source, program(name, examples.get(i)));
            Outcome compiled = Outcome.of(Path.of("."), "javac", "--release", "17", "-sourcepath", TESTS.toString(),
                    "-d", directory.toString(), "src/main/java/MicrostepChart.java", source.toString());
            CHECK.due(name + " compiles: " + compiled.text, compiled.code, 0);
            Outcome run = Outcome.of(Path.of("."), "java", "-cp", directory.toString(), name);
            CHECK.due(name + " answers what is said: " + run.text, run.code, 0);
            Outcome.delete(directory);
        }
    }

    /** `.ci/run` is left to CiTest, for it runs this test. */
    private static void commands(List<String> commands, String text) throws Exception {
        CHECK.due("README has two blocks of commands", commands.size(), 2);
        CHECK.due("the first one runs all tests", commands.get(0).equals(".ci/run\n"), true);
        Outcome run = Outcome.of(Path.of("."), "sh", "-e", "-c", commands.get(1));
        CHECK.due("the commands for one test: " + run.text, run.code, 0);
        CHECK.due("what they print: " + run.text, run.text.matches("RunTest: \\d+ answers, 0 not as due\n"), true);
        CHECK.due("what is said of it", text.contains("`RunTest: .. answers, 0 not as due`"), true);
    }

    private static void namedTests(String text) throws IOException {
        TreeSet<String> named = new TreeSet<>();
        Matcher name = Pattern.compile("`(\\w+Test)`").matcher(text);
        while (name.find()) {
            named.add(name.group(1) + ".java");
        }
        TreeSet<String> there = new TreeSet<>();
        for (String file : TESTS.toFile().list()) {
            if (file.endsWith("Test.java")) {
                there.add(file);
            }
        }
        CHECK.due("README names " + named + ", there are " + there, named.equals(there), true);
    }
    private static void namedMethods(String text) throws IOException {
        Matcher name = Pattern.compile("`(\\w+Test)\\.(\\w+)`").matcher(text);
        int count = 0;
        while (name.find()) {
            count++;
            String source = Files.readString(TESTS.resolve(name.group(1) + ".java"));
            String method = name.group(2) + "(";
            CHECK.due("there is " + name.group(), source.contains(" void " + method), true);
            CHECK.due("it is called: " + name.group(), source.indexOf(method) < source.lastIndexOf(method), true);
        }
        CHECK.due("README names such methods", count > 50, true);
    }
}
