import java.nio.file.Files;
import java.nio.file.Path;
import java.util.ArrayList;
import java.util.List;
import java.util.concurrent.Callable;
import java.util.concurrent.ExecutorService;
import java.util.concurrent.Executors;
import java.util.concurrent.Future;

/** `.ci/run` itself, on small projects of which all tests pass, or one does not. */
public final class CiTest {
    private static final Check CHECK = new Check();
    private static final String PASSES = "System.exit(0);";
    private static final String FAILS = "System.exit(1);";
    private static final String THROWS = "throw new IllegalStateException();";
    private static final String COMPILES_NOT = "int x = ;";
    private static final String NONE = null;

    public static void main(String[] args) throws Exception {
        List<Callable<Project>> projects = new ArrayList<>();
        projects.add(() -> new Project(0, "all pass", "", PASSES, PASSES));
        projects.add(() -> new Project(1, "a test fails", "", FAILS, PASSES));
        projects.add(() -> new Project(1, "a test throws", "", THROWS, PASSES));
        projects.add(() -> new Project(1, "a test does not compile", "", COMPILES_NOT, PASSES));
        projects.add(() -> new Project(1, "a shared test fails", "", PASSES, FAILS));
        projects.add(() -> new Project(1, "a shared test throws", "", PASSES, THROWS));
        projects.add(() -> new Project(1, "a shared test does not compile", "", PASSES, COMPILES_NOT));
        projects.add(() -> new Project(1, "there is no shared test", "", PASSES, NONE));
        projects.add(() -> new Project(1, "the class does not compile", "int x = ;", PASSES, PASSES));
        projects.add(() -> new Project(1, "the class is beyond Java 17", "void f(Object o) { switch (o) {"
                + " case String s -> { } default -> { } } }", PASSES, PASSES));
        CHECK.due(".ci/run may be executed", Files.isExecutable(Path.of(".ci/run")), true);
        ExecutorService threads = Executors.newFixedThreadPool(4);
        for (Future<Project> done : threads.invokeAll(projects)) {
            done.get().due();
        }
        threads.shutdown();
        CHECK.end("CiTest");
    }

    /** A project with .ci/run, a class, two tests and a helper, and two shared tests beside it. */
    private static final class Project {
        private final int code;
        private final String name;
        private final boolean sharedThere;
        private final Outcome outcome;

        Project(int code, String name, String member, String test, String shared) throws Exception {
            this.code = code;
            this.name = name;
            sharedThere = shared != NONE;
            Path directory = Files.createTempDirectory("ci");
            Path main = directory.resolve("main");
            Path tests = main.resolve("src/test/java");
            write(main.resolve("src/main/java"), "MicrostepChart", member + " static int helped() { return 1; }");
            write(tests, "Helper", "static int help() { return MicrostepChart.helped(); }");
            write(tests, "OneTest", mainOf("OneTest", "if (Helper.help() == 1) { " + test + " }"));
            write(tests, "OtherTest", mainOf("OtherTest", ""));
            Files.createDirectories(directory.resolve("shared/tests"));
            if (sharedThere) {
                write(directory.resolve("shared/tests"), "Runs", mainOf("Runs", shared));
                write(directory.resolve("shared/tests"), "MoreRuns", mainOf("MoreRuns", ""));
            }
            Files.createDirectories(main.resolve(".ci"));
            Files.copy(Path.of(".ci/run"), main.resolve(".ci/run"));
            outcome = Outcome.of(directory, "sh", "main/.ci/run");
            Outcome.delete(directory);
        }

        private static String mainOf(String name, String body) {
            return "public static void main(String[] args) { MicrostepChart.helped();"
                    + " System.out.println(\"" + name + " was run\"); " + body + " }";
        }

        private static void write(Path directory, String name, String members) throws Exception {
            Files.createDirectories(directory);
            String text = "public final class " + name + " { " + members + " }\n";
            Files.writeString(directory.resolve(name + ".java"), text);
        }

        void due() {
            CHECK.due(name + ", exit code; it printed " + outcome.text, outcome.code, code);
            CHECK.due(name + ", the last line", outcome.text.endsWith("all 4 tests passed\n"), code == 0);
            if (!outcome.text.contains("MicrostepChart.java:1")) {
                CHECK.due(name + ", the other test", outcome.text.contains("OtherTest was run\n"), true);
                CHECK.due(name + ", the other shared test", outcome.text.contains("MoreRuns was run\n"), sharedThere);
            }
        }
    }
}
