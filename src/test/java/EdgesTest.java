import java.nio.file.Files;
import java.nio.file.Path;
import java.util.ArrayList;
import java.util.List;
import java.util.Map;
import java.util.TreeMap;

/**
 * Runs the tests of the edges, and looks whether each sentence of the document, whose path is the first argument,
 * that names one has its test: each "Throws", each other line of a promise and each sentence of the description
 * with a number, and the order of the exceptions of each promise that has several.
 */
public final class EdgesTest {
    private static final List<Class<?>> EDGES = List.of(BuildingEdges.class, TextEdges.class, ObstacleEdges.class,
            AwardEdges.class, ExchangeEdges.class, HoldingEdges.class, AccountEdges.class, ChangeEdges.class);

    private static final Map<String, List<String>> LINES = new TreeMap<>();
    private static String document = "";
    private static String description = "";

    public static void main(String[] args) throws Exception {
        read(Path.of(args[0]));
        for (Class<?> edges : EDGES) {
            Edges.run(edges);
        }
        Check.about("the tests of the edges");
        Check.equal("the promises", 42, LINES.size());
        Edges.said().forEach(EdgesTest::isOfTheDocument);
        LINES.forEach(EdgesTest::hasItsTests);
        sentencesOfTheDescription();
        Check.end("EdgesTest");
    }

    private static void read(Path path) throws Exception {
        document = plain(Files.readString(path));
        StringBuilder described = new StringBuilder();
        String part = "";
        for (String line : Files.readAllLines(path)) {
            if (line.startsWith("## ")) {
                part = line.substring(3);
                if (part.startsWith("Promise ")) {
                    LINES.put(part = testName(part), new ArrayList<>());
                }
            } else if (LINES.containsKey(part)) {
                LINES.get(part).add(plain(line));
            } else if (part.equals("Description")) {
                described.append(line).append("\n");
            }
        }
        description = plain(described.toString());
    }

    private static String plain(String text) {
        return text.replace("`", "").replaceAll("\\s+", " ").trim();
    }

    /** "Promise 1: A new object" gives promise01ANewObject. */
    private static String testName(String heading) {
        String[] parts = heading.split("[ :]+");
        StringBuilder name = new StringBuilder(parts[1].length() == 1 ? "promise0" : "promise").append(parts[1]);
        for (int index = 2; index < parts.length; index++) {
            name.append(Character.toUpperCase(parts[index].charAt(0))).append(parts[index].substring(1));
        }
        return name.toString();
    }

    private static void isOfTheDocument(String test, List<String> sentences) {
        Check.equal(test + " is named after a promise", true, LINES.keySet().stream().anyMatch(test::startsWith));
        Check.equal(test + " says what it looks at", false, sentences.isEmpty());
        for (String sentence : sentences) {
            Check.equal(test + " says of the document: " + sentence, true, document.contains(sentence));
        }
    }

    private static boolean isSaid(String promise, String line) {
        return Edges.said().entrySet().stream().anyMatch(entry -> entry.getKey().startsWith(promise)
                && entry.getValue().stream().anyMatch(line::contains));
    }

    private static void hasItsTests(String promise, List<String> lines) {
        int exceptions = 0;
        Check.equal("tests of " + promise, true,
                Edges.said().keySet().stream().anyMatch(test -> test.startsWith(promise)));
        for (String line : lines) {
            exceptions += line.startsWith("Throws ") ? 1 : 0;
            if (line.startsWith("Throws ") || line.matches(".*\\d.*")) {
                Check.equal("a test of " + promise + " for: " + line, true, isSaid(promise, line));
            }
        }
        if (exceptions > 1) {
            Check.equal("a test of " + promise + " for the order of the exceptions", true,
                    isSaid(promise, Edges.ORDER));
        }
    }

    private static void sentencesOfTheDescription() {
        for (String sentence : description.split("(?<=\\.) (?=[A-Z0-9])")) {
            if (sentence.matches(".*\\d.*")) {
                Check.equal("a test for: " + sentence, true, isSaid("promise", sentence));
            }
        }
    }
}
