import java.lang.reflect.Constructor;
import java.lang.reflect.Field;
import java.lang.reflect.Method;
import java.lang.reflect.Modifier;
import java.nio.file.Files;
import java.nio.file.Path;
import java.util.ArrayList;
import java.util.Arrays;
import java.util.Collections;
import java.util.List;

/** The class's face is that of the document, whose path is the first argument, and nothing more. */
public final class FaceTest {
    public static void main(String[] args) throws Exception {
        Check.equal("the face", faceOfDocument(args[0]), faceOfClass());
        Check.equal("the signatures of the promises", signaturesOfPromises(args[0]), faceOfClass());
        Check.equal("the class is public and final", Modifier.PUBLIC | Modifier.FINAL,
                ShiftMarket.class.getModifiers());
        for (Field field : ShiftMarket.class.getDeclaredFields()) {
            Check.equal(field + " is private", true, Modifier.isPrivate(field.getModifiers()));
        }
        noPrivateMethodBearsThePublicName();
        Check.end("FaceTest");
    }

    private static List<String> faceOfDocument(String path) throws Exception {
        List<String> face = new ArrayList<>();
        boolean inside = false;
        for (String line : Files.readAllLines(Path.of(path))) {
            String text = line.trim();
            if (text.startsWith("public final class")) {
                inside = true;
            } else if (inside && text.equals("}")) {
                break;
            } else if (inside && !text.isEmpty()) {
                face.add(withoutNames(text));
            }
        }
        Collections.sort(face);
        return face;
    }

    /** Each promise has its signature in the first line that is not empty, and bears the name of its method. */
    private static List<String> signaturesOfPromises(String path) throws Exception {
        List<String> signatures = new ArrayList<>();
        String promise = "";
        for (String line : Files.readAllLines(Path.of(path))) {
            if (line.startsWith("## ")) {
                promise = line.startsWith("## Promise ") ? line : "";
            } else if (!promise.isEmpty() && !line.isEmpty()) {
                Check.equal(promise + " begins with a signature", true, line.matches("`[^`]*`"));
                Check.equal(promise + " has a number", true,
                        promise.startsWith("## Promise " + (signatures.size() + 1) + ": "));
                Check.equal(promise + " has the name of " + line, true, signatures.isEmpty()
                        || line.contains(" " + promise.substring(promise.indexOf(": ") + 2) + "("));
                signatures.add(withoutNames(line.replace("`", "")));
                promise = "";
            }
        }
        Collections.sort(signatures);
        return signatures;
    }

    private static String withoutNames(String line) {
        return line.replace("public ", "").replace(";", "").replaceAll("int \\w+([,)])", "int$1");
    }

    private static List<String> faceOfClass() {
        List<String> face = new ArrayList<>();
        for (Constructor<?> constructor : ShiftMarket.class.getDeclaredConstructors()) {
            if (!Modifier.isPrivate(constructor.getModifiers())) {
                face.add("ShiftMarket" + parameters(constructor.getParameterTypes()));
            }
        }
        for (Method method : ShiftMarket.class.getDeclaredMethods()) {
            if (!Modifier.isPrivate(method.getModifiers())) {
                face.add(method.getReturnType() + " " + method.getName() + parameters(method.getParameterTypes())
                        + exceptions(method.getExceptionTypes()));
            }
        }
        Collections.sort(face);
        return face;
    }

    private static String parameters(Class<?>[] types) {
        return "(" + names(types) + ")";
    }

    private static String exceptions(Class<?>[] types) {
        return types.length == 0 ? "" : " throws " + names(types);
    }

    private static String names(Class<?>[] types) {
        List<String> names = new ArrayList<>();
        for (Class<?> type : types) {
            names.add(type.getSimpleName());
        }
        return String.join(", ", names);
    }

    private static void noPrivateMethodBearsThePublicName() {
        List<String> publicNames = new ArrayList<>();
        List<Class<?>> classes = new ArrayList<>(Arrays.asList(ShiftMarket.class.getDeclaredClasses()));
        classes.add(ShiftMarket.class);
        for (Method method : ShiftMarket.class.getMethods()) {
            publicNames.add(method.getName());
        }
        for (Class<?> type : classes) {
            for (Method method : type.getDeclaredMethods()) {
                boolean face = type == ShiftMarket.class && Modifier.isPublic(method.getModifiers());
                Check.equal(method + " bears a public name", false, !face && publicNames.contains(method.getName()));
            }
        }
    }
}
