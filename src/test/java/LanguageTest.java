import java.lang.reflect.Field;
import java.lang.reflect.Modifier;
import java.nio.file.Files;
import java.nio.file.Path;
import java.util.Arrays;
import java.util.List;
import java.util.Map;
import java.util.Set;
import java.util.TreeMap;
import java.util.TreeSet;
import java.util.regex.Matcher;
import java.util.regex.Pattern;

/**
 * The source, whose path is the second argument, keeps to those rules of LANGUAGE.md that can be seen in its words:
 * names of the library, exceptions, static fields, divisors, casts, what is made and where, and how long, wide and
 * deep its methods are.
 */
public final class LanguageTest {
    private static final Set<String> LIBRARY = Set.of("Math.max", "Math.min", "Integer.bitCount", "System.arraycopy");
    private static final Set<String> EXCEPTIONS = Set.of("IllegalStateException", "IllegalArgumentException",
            "IndexOutOfBoundsException", "ArithmeticException", "UnsupportedOperationException",
            "NoSuchElementException");
    private static final List<String> FORBIDDEN = List.of("->", "::", " try ", "catch", "finally", "synchronized",
            "assert", "Exact(", "static {", "native", "volatile", "transient", "Object", "package ");
    private static final Pattern METHOD = Pattern.compile(
            "(?m)^ +(?:public |private )?(?:static )?(?:int|boolean|double|float|void|int\\[\\]) (\\w+)\\(([^)]*)\\)");
    private static final int MOST_LINES = 60;
    private static final int MOST_PARAMETERS = 7;
    private static final int MOST_CLASSES = 12;
    private static final int DEEPEST = 8;
    private static final int MOST_FIELDS = 20;

    private static final Map<String, Set<String>> CALLED = new TreeMap<>();

    public static void main(String[] args) throws Exception {
        String source = withoutComments(Files.readString(Path.of(args[1])));
        words(source);
        statics(source);
        exceptions(source);
        divisorsAndCasts(source.replaceAll("\"[^\"]*\"", "\"\""));
        whatIsMade(source);
        fields(ShiftMarket.class);
        for (Class<?> type : ShiftMarket.class.getDeclaredClasses()) {
            fields(type);
            int modifiers = type.getModifiers();
            Check.equal(type + " is static, and not of the face", true, Modifier.isStatic(modifiers)
                    && !Modifier.isPublic(modifiers) && !Modifier.isProtected(modifiers));
        }
        methods(source);
        for (String method : CALLED.keySet()) {
            int depth = depthOf(method, 1);
            Check.equal(method + " is " + depth + " deep", true, depth <= DEEPEST);
        }
        Check.end("LanguageTest");
    }

    private static String withoutComments(String source) {
        return source.replaceAll("(?s)/\\*.*?\\*/", "").replaceAll("//[^\n]*", "");
    }

    private static void words(String source) {
        String code = source.replaceAll("\"[^\"]*\"", "\"\"");
        Matcher imports = Pattern.compile("import ([\\w.]+);").matcher(code);
        while (imports.find()) {
            Check.equal("import", "java.util.NoSuchElementException", imports.group(1));
        }
        for (String word : FORBIDDEN) {
            Check.equal("the word " + word, -1, code.indexOf(word));
        }
        Set<String> classes = new TreeSet<>();
        Matcher declared = Pattern.compile("class (\\w+)").matcher(code);
        while (declared.find()) {
            classes.add(declared.group(1));
        }
        Check.equal("the number of classes " + classes, true, classes.size() <= MOST_CLASSES);
        Matcher used = Pattern.compile("\\b([A-Z][a-z]\\w*)(\\.\\w+)?").matcher(code.replaceAll("import [^;]*;", ""));
        while (used.find()) {
            boolean own = classes.contains(used.group(1)) || EXCEPTIONS.contains(used.group(1));
            Check.equal("the name " + used.group(), true, own || LIBRARY.contains(used.group()));
        }
        Check.equal("signs that are none of text", "", source.replaceAll("[\n -~]", ""));
    }

    private static void statics(String source) {
        for (String line : source.split("\n")) {
            boolean field = line.contains(" static ") && line.contains(";") && !line.contains("{");
            Check.equal(line.trim() + " is a constant", true, !field || line.contains("static final "));
            Check.equal(line.trim() + " is not too long", true, line.length() <= 120);
        }
    }

    private static void exceptions(String source) {
        Matcher thrown = Pattern.compile("throw\\b(?!s)([^;]*);").matcher(source);
        Pattern right = Pattern.compile(" new (\\w+)\\((?:\"[^\"]*\")?\\)");
        while (thrown.find()) {
            Matcher matcher = right.matcher(thrown.group(1));
            Check.equal("throw" + thrown.group(1), true, matcher.matches() && EXCEPTIONS.contains(matcher.group(1)));
        }
    }

    /** A divisor is a constant, or one of the two of doubles and floats, which are looked at before. */
    private static void divisorsAndCasts(String code) {
        Matcher divisor = Pattern.compile("[/%]=? *((?:\\(\\w+\\) )?[\\w.]*)").matcher(code);
        while (divisor.find()) {
            Check.equal("divided by " + divisor.group(1), true, divisor.group(1).matches("(\\w+\\.)?[A-Z_]+")
                    || List.of("(double) workers", "(float) needs").contains(divisor.group(1)));
        }
        Matcher cast = Pattern.compile("\\((\\w+)\\) *[\\w(]").matcher(code);
        while (cast.find()) {
            boolean condition = code.substring(0, cast.start()).matches("(?s).*\\b(if|while|for|switch) ");
            Check.equal("cast to " + cast.group(1), true, condition || List.of("double", "float").contains(
                    cast.group(1)));
        }
    }

    /** All but exceptions is made with the object itself, so that the calls of a run make nothing that is kept. */
    private static void whatIsMade(String source) {
        for (String line : source.split("\n")) {
            Check.equal("made in " + line.trim(), true, !line.contains("new ") || line.contains("throw new ")
                    || line.matches(" +(private )?final [\\w\\[\\]]+ \\w+ = new .*;"));
        }
        Check.equal("the constructor does nothing", true,
                Pattern.compile("public ShiftMarket\\(\\) \\{\\s*\\}").matcher(source).find());
    }

    private static void fields(Class<?> type) {
        int count = 0;
        for (Field field : type.getDeclaredFields()) {
            boolean isStatic = Modifier.isStatic(field.getModifiers());
            count += isStatic ? 0 : 1;
            Check.equal(field + " is a constant", true, !isStatic || Modifier.isFinal(field.getModifiers()));
        }
        Check.equal(type + " has few fields", true, count <= MOST_FIELDS);
    }

    private static void methods(String source) {
        Matcher method = METHOD.matcher(source);
        Map<String, String> bodies = new TreeMap<>();
        while (method.find()) {
            String name = method.group(1);
            String body = bodyFrom(source, source.indexOf('{', method.end()));
            Check.equal(name + " is declared once", false, bodies.containsKey(name));
            bodies.put(name, body);
            Check.equal(name + " is not too long", true, body.split("\n").length <= MOST_LINES);
            Check.equal(name + " has few parameters", true, method.group(2).split(",").length <= MOST_PARAMETERS);
        }
        Check.equal("methods are found", true, bodies.size() > 42);
        bodies.forEach((name, body) -> {
            Set<String> called = new TreeSet<>();
            Matcher call = Pattern.compile("(\\w+)\\(").matcher(body);
            while (call.find()) {
                called.add(call.group(1));
            }
            called.removeAll(Arrays.asList("if", "for", "while", "switch"));
            CALLED.put(name, called);
        });
    }

    private static String bodyFrom(String source, int begin) {
        int open = 0;
        for (int index = begin; index < source.length(); index++) {
            open += source.charAt(index) == '{' ? 1 : source.charAt(index) == '}' ? -1 : 0;
            if (open == 0) {
                return source.substring(begin, index);
            }
        }
        return source.substring(begin);
    }

    /** A call of the library counts as one too. Beyond the deepest it looks no further, so recursion ends. */
    private static int depthOf(String method, int depth) {
        int deepest = depth;
        for (String called : CALLED.getOrDefault(method, Set.of())) {
            if (depth <= DEEPEST) {
                deepest = Math.max(deepest, depthOf(called, depth + 1));
            }
        }
        return deepest;
    }
}
