import java.io.IOException;
import java.io.StringWriter;
import java.net.URL;
import java.net.URLClassLoader;
import java.nio.file.Files;
import java.nio.file.Path;
import java.util.ArrayList;
import java.util.Comparator;
import java.util.List;
import java.util.TreeSet;
import java.util.regex.Matcher;
import java.util.regex.Pattern;
import java.util.stream.Stream;
import javax.tools.JavaCompiler;
import javax.tools.ToolProvider;

/**
 * The examples of README.md compile, and answer what the comments behind their lines begin with; and README.md names
 * the command and all of the tests. It is run in the directory of README.md.
 */
public final class ReadmeTest {
    private static final Pattern BLOCK = Pattern.compile("(?s)```java\n(.*?)```");
    /** A call alone or the beginning of a name, and what is due: a number, a boolean, or an exception. */
    private static final Pattern LINE = Pattern.compile("(int (\\w+) = )?(market\\..*); +// ([^, ]+(?: \\w+Exception)?)"
            + "(?:,.*)?");
    private static final Path TESTS = Path.of("src/test/java");

    public static void main(String[] args) throws Exception {
        String readme = Files.readString(Path.of("README.md"));
        examples(readme);
        testsAreNamed(readme);
        Check.equal("the command stands in a block of its own", true, readme.contains("\n```\n.ci/run\n```\n"));
        Check.equal("the command can be run", true, Files.isExecutable(Path.of(".ci/run")));
        Check.end("ReadmeTest");
    }

    private static void examples(String readme) throws Exception {
        StringBuilder code = new StringBuilder("public final class Example {\n");
        Matcher block = BLOCK.matcher(readme);
        List<String> due = new ArrayList<>();
        int blocks = 0;
        while (block.find()) {
            blocks++;
            code.append("static void example").append(blocks).append("(java.util.List<String> got) {\n");
            for (String line : block.group(1).split("\n")) {
                code.append(asking(line, due)).append("\n");
            }
            code.append("}\n");
        }
        code.append("public static void run(java.util.List<String> got) {\n");
        for (int number = 1; number <= blocks; number++) {
            code.append("example").append(number).append("(got);\n");
        }
        Check.equal("there are examples", true, blocks == 3 && due.size() > 30);
        List<String> got = answers(code.append("}\n}\n").toString());
        Check.equal("the number of answers", due.size(), got.size());
        for (int index = 0; index < Math.min(due.size(), got.size()); index++) {
            Check.equal("an example's line", due.get(index), got.get(index));
        }
    }

    /** The line as it stands, but that its answer is kept, if its comment says what is due. */
    private static String asking(String line, List<String> due) {
        Matcher matcher = LINE.matcher(line);
        if (!matcher.matches()) {
            return line;
        }
        String text = "\"" + matcher.group(3).replace("\"", "\\\"") + " \"";
        due.add(matcher.group(3) + " " + matcher.group(4));
        if (matcher.group(4).startsWith("throws ")) {
            return "try { " + matcher.group(3) + "; got.add(" + text + "); } catch (RuntimeException e) { got.add("
                    + text + " + \"throws \" + e.getClass().getSimpleName()); }";
        }
        if (matcher.group(1) != null) {
            return matcher.group(1) + matcher.group(3) + "; got.add(" + text + " + " + matcher.group(2) + ");";
        }
        return "got.add(" + text + " + " + matcher.group(3) + ");";
    }

    private static List<String> answers(String code) throws Exception {
        Path directory = Files.createTempDirectory("readme");
        List<String> got = new ArrayList<>();
        try {
            Path file = Files.writeString(directory.resolve("Example.java"), code);
            JavaCompiler compiler = ToolProvider.getSystemJavaCompiler();
            StringWriter told = new StringWriter();
            boolean compiled = compiler.getTask(told, null, null, List.of("-classpath",
                    System.getProperty("java.class.path"), "-d", directory.toString()), null, compiler
                    .getStandardFileManager(null, null, null).getJavaFileObjects(file)).call();
            Check.equal("the examples compile: " + told, true, compiled);
            if (compiled) {
                try (URLClassLoader loader = new URLClassLoader(new URL[] {directory.toUri().toURL()})) {
                    loader.loadClass("Example").getMethod("run", List.class).invoke(null, got);
                }
            }
        } finally {
            delete(directory);
        }
        return got;
    }

    static void delete(Path directory) throws IOException {
        try (Stream<Path> files = Files.walk(directory)) {
            for (Path file : files.sorted(Comparator.reverseOrder()).toList()) {
                Files.delete(file);
            }
        }
    }

    private static void testsAreNamed(String readme) throws IOException {
        TreeSet<String> there = new TreeSet<>();
        TreeSet<String> named = new TreeSet<>();
        try (Stream<Path> files = Files.list(TESTS)) {
            files.map(file -> file.getFileName().toString()).filter(name -> name.endsWith("Test.java"))
                    .forEach(name -> there.add(name.replace(".java", "")));
        }
        Matcher name = Pattern.compile("`(\\w+Test)`").matcher(readme);
        while (name.find()) {
            named.add(name.group(1));
        }
        Check.equal("the tests that are named", there, named);
    }
}
