import java.nio.file.Files;
import java.nio.file.Path;
import java.util.ArrayList;
import java.util.List;
import java.util.Map;
import java.util.TreeMap;

/**
 * Runs the tests that say which sentence of the document they look at, and looks whether each sentence of the
 * document, whose path is the first argument, has its test, and the order of the exceptions of each promise that has
 * several has one too. The signatures are left to FaceTest.
 */
public final class SentencesTest {
    private static final List<Class<?>> TESTS = List.of(BuildingEdges.class, TextEdges.class, ObstacleEdges.class,
            AwardEdges.class, ExchangeEdges.class, HoldingEdges.class, AccountEdges.class, ChangeEdges.class,
            WholeSentences.class, BuildingSentences.class, TextSentences.class, AwardSentences.class,
            ExchangeSentences.class, HoldingSentences.class, AccountSentences.class);

    /** What says that something is not promised, or how the document is built, can't be broken by the class. */
    private static final List<String> WITHOUT_TEST = List.of("The class is not thread-safe.",
            "The constructor and the methods follow, a promise each: the signature, then what it does.",
            "How the state is held inside the object is free", "Use of one object from several threads at once",
            "Nothing is promised beyond the answers");
    private static final String DESCRIPTION = "Description";

    private static final Map<String, List<String>> SENTENCES = new TreeMap<>();
    private static final List<String> PROMISES = new ArrayList<>();
    private static String document = "";

    public static void main(String[] args) throws Exception {
        read(Path.of(args[0]));
        for (Class<?> tests : TESTS) {
            Edges.run(tests);
        }
        Check.about("the tests of the sentences");
        Check.equal("the promises", 42, PROMISES.size());
        Check.equal("the other parts", "[Description, Not promised, What it is]", otherParts().toString());
        Edges.said().forEach(SentencesTest::isOfTheDocument);
        PROMISES.forEach(SentencesTest::promiseHasItsTests);
        otherParts().forEach(SentencesTest::partHasItsTests);
        Check.end("SentencesTest");
    }

    private static void read(Path path) throws Exception {
        document = plain(Files.readString(path));
        String part = "";
        StringBuilder paragraph = new StringBuilder();
        for (String line : Files.readAllLines(path)) {
            boolean heading = line.startsWith("## ");
            if (heading || line.isEmpty() || line.startsWith("- ")) {
                take(part, paragraph.toString().trim());
                paragraph.setLength(0);
            }
            if (heading) {
                part = partOf(line.substring(3));
            } else {
                paragraph.append(line.startsWith("- ") ? line.substring(2) : line).append(" ");
            }
        }
        take(part, paragraph.toString().trim());
    }

    private static String partOf(String heading) {
        String part = heading.startsWith("Promise ") ? testName(heading) : heading;
        if (heading.startsWith("Promise ")) {
            PROMISES.add(part);
        }
        // The face is no text, so it has no sentences.
        if (!heading.equals("The public face")) {
            SENTENCES.put(part, new ArrayList<>());
        }
        return part;
    }

    private static void take(String part, String paragraph) {
        boolean signature = paragraph.startsWith("`") && paragraph.contains("(") && part.startsWith("promise");
        if (signature || paragraph.isEmpty() || !SENTENCES.containsKey(part)) {
            return;
        }
        for (String sentence : plain(paragraph).split("(?<=\\.) (?=[A-Z0-9])")) {
            boolean heading = part.equals(DESCRIPTION) && sentence.split(" ").length <= 2;
            if (!heading && WITHOUT_TEST.stream().noneMatch(sentence::startsWith)) {
                SENTENCES.get(part).add(sentence);
            }
        }
    }

    private static String plain(String text) {
        return text.replace("`", "").replaceAll("\\s+", " ").trim();
    }

    /** "Promise 1: A new object" gives promise01ANewObject. */
    private static String testName(String heading) {
        String[] parts = heading.split("[ :]+");
        StringBuilder name = new StringBuilder(parts[1].length() == 1 ? "promise0" : "promise").append(parts[1]);
        for (int index = 2; index < parts.length; index++) {
            name.append(Character.toUpperCase(parts[index].charAt(0))).append(parts[index].substring(1));
        }
        return name.toString();
    }

    private static List<String> otherParts() {
        List<String> parts = new ArrayList<>(SENTENCES.keySet());
        parts.removeAll(PROMISES);
        return parts;
    }

    private static void isOfTheDocument(String test, List<String> sentences) {
        Check.equal(test + " is named after a promise", true, PROMISES.stream().anyMatch(test::startsWith));
        Check.equal(test + " says what it looks at", false, sentences.isEmpty());
        for (String sentence : sentences) {
            Check.equal(test + " says of the document: " + sentence, true, document.contains(sentence));
        }
    }

    /** A test says a sentence, a part of it, or several of them in a row. */
    private static boolean isSaid(String promise, String sentence) {
        return Edges.said().entrySet().stream().anyMatch(entry -> entry.getKey().startsWith(promise)
                && entry.getValue().stream().anyMatch(said -> sentence.contains(said) || said.contains(sentence)));
    }

    private static void promiseHasItsTests(String promise) {
        int exceptions = 0;
        Check.equal("sentences of " + promise, false, SENTENCES.get(promise).isEmpty());
        for (String sentence : SENTENCES.get(promise)) {
            exceptions += sentence.startsWith("Throws ") ? 1 : 0;
            Check.equal("a test of " + promise + " for: " + sentence, true, isSaid(promise, sentence));
        }
        if (exceptions > 1) {
            Check.equal("a test of " + promise + " for the order of the exceptions", true,
                    isSaid(promise, Edges.ORDER));
        }
    }

    private static void partHasItsTests(String part) {
        for (String sentence : SENTENCES.get(part)) {
            Check.equal("a test for: " + sentence, true, isSaid("promise", sentence));
        }
    }
}
