import java.nio.file.Files;
import java.nio.file.Path;
import java.util.List;
import java.util.concurrent.TimeUnit;

/**
 * .ci/run, in a small project with two tests of its own and two under ../shared/tests, runs all four, and fails if one
 * of them fails or does not compile. It is run in the directory that .ci stands in.
 */
public final class CommandTest {
    private static final List<String> OWN = List.of("FirstTest", "SecondTest");
    private static final List<String> SHARED = List.of("ThirdRuns", "FourthRuns");
    private static final String RIGHT = "";
    private static final String WRONG = "System.exit(1);";
    private static final String THROWS = "if (args != null) { throw new IllegalStateException(); }";
    private static final String WITHOUT_SENSE = "this is no statement;";

    /** The small project, of which one file has something else than the others in it. */
    private static final class Project {
        final String what;
        final boolean runs;
        final boolean passes;
        final Path directory;
        final Process process;

        Project(String what, String other, String statement) throws Exception {
            this.what = what;
            this.passes = statement.equals(RIGHT);
            this.runs = !statement.equals(WITHOUT_SENSE);
            directory = Files.createTempDirectory("command");
            Path main = Files.createDirectories(directory.resolve("main"));
            Path command = Files.createDirectories(main.resolve(".ci")).resolve("run");
            Files.copy(Path.of(".ci/run"), command);
            Path source = Files.createDirectories(main.resolve("src/main/java"));
            write(source, "ShiftMarket", other.equals("ShiftMarket") ? statement : RIGHT);
            Path tests = Files.createDirectories(main.resolve("src/test/java"));
            Path shared = Files.createDirectories(directory.resolve("shared/tests"));
            Files.writeString(directory.resolve("shared/DOC.md"), "");
            for (String name : OWN) {
                write(tests, name, name.equals(other) ? statement : RIGHT);
            }
            for (String name : SHARED) {
                write(shared, name, name.equals(other) ? statement : RIGHT);
            }
            process = new ProcessBuilder("sh", command.toString()).redirectErrorStream(true)
                    .redirectOutput(directory.resolve("told").toFile()).start();
        }

        private static void write(Path path, String name, String statement) throws Exception {
            Files.writeString(path.resolve(name + ".java"), "public final class " + name
                    + " { public static void main(String[] args) { System.out.println(\"" + name + " runs\"); "
                    + statement + " } }\n");
        }

        void look() throws Exception {
            boolean ended = process.waitFor(5, TimeUnit.MINUTES);
            Check.equal(what + " ends", true, ended);
            if (ended) {
                Check.equal(what + " passes", passes, process.exitValue() == 0);
                String told = Files.readString(directory.resolve("told"));
                for (List<String> names : runs ? List.of(OWN, SHARED) : List.<List<String>>of()) {
                    for (String test : names) {
                        Check.equal(what + ": " + test + " runs", true, told.contains(test + " runs"));
                    }
                }
            }
            process.destroyForcibly();
            ReadmeTest.delete(directory);
        }
    }

    public static void main(String[] args) throws Exception {
        String[][] cases = {{"a project without a fault", "", RIGHT}, {"the first test wrong", "FirstTest", WRONG},
            {"the second test throwing", "SecondTest", THROWS}, {"the first shared test wrong", "FourthRuns", WRONG},
            {"the second shared test throwing", "ThirdRuns", THROWS},
            {"the class not compiling", "ShiftMarket", WITHOUT_SENSE},
            {"a test not compiling", "SecondTest", WITHOUT_SENSE},
            {"a shared test not compiling", "ThirdRuns", WITHOUT_SENSE}};
        // Two at a time: all at once would take much room, one after the other much time.
        for (int index = 0; index < cases.length; index += 2) {
            Project one = new Project(cases[index][0], cases[index][1], cases[index][2]);
            Project other = new Project(cases[index + 1][0], cases[index + 1][1], cases[index + 1][2]);
            one.look();
            other.look();
        }
        Check.end("CommandTest");
    }
}
