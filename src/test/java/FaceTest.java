import java.io.IOException;
import java.lang.reflect.Field;
import java.lang.reflect.Method;
import java.lang.reflect.Modifier;
import java.nio.file.Files;
import java.nio.file.Path;
import java.util.Set;
import java.util.TreeSet;
import java.util.regex.Matcher;
import java.util.regex.Pattern;

/** The face is the document's and nothing else; and what of LANGUAGE.md can be seen by words and by reflection. */
public final class FaceTest {
    private static final Due DUE = new Due("FaceTest");

    public static void main(String[] args) throws IOException {
        face(Files.readString(Path.of("../shared/DOC.md")));
        words(Files.readString(Path.of("src/main/java/HandsForAWheel.java")));
        for (Class<?> inside : HandsForAWheel.class.getDeclaredClasses()) {
            DUE.is(inside + " is static", Modifier.isStatic(inside.getModifiers()) ? 1 : 0, 1);
            DUE.is(inside + " is not to be seen", Modifier.isPublic(inside.getModifiers()) ? 1 : 0, 0);
        }
        DUE.end();
    }

    private static void face(String document) {
        Set<String> told = new TreeSet<>();
        Set<String> names = new TreeSet<>();
        Matcher m = Pattern.compile("public int (\\w+)\\((.*?)\\);").matcher(document);
        while (m.find()) {
            int numbers = m.group(2).isEmpty() ? 0 : m.group(2).split(",").length;
            told.add(m.group(1) + " of " + numbers);
            names.add(m.group(1));
        }
        Set<String> there = new TreeSet<>();
        for (Method method : HandsForAWheel.class.getDeclaredMethods()) {
            if (Modifier.isPublic(method.getModifiers())) {
                there.add(method.getName() + " of " + method.getParameterCount());
                DUE.is(method + " answers an int", method.getReturnType() == int.class ? 1 : 0, 1);
            } else {
                DUE.is(method + " is private", Modifier.isPrivate(method.getModifiers()) ? 1 : 0, 1);
                DUE.is(method + " has a name of its own", names.contains(method.getName()) ? 1 : 0, 0);
            }
        }
        DUE.is("methods of the face", told.size(), 54);
        DUE.is("the face " + there + " for " + told, there.equals(told) ? 1 : 0, 1);
        for (Field field : HandsForAWheel.class.getDeclaredFields()) {
            DUE.is(field + " is private", Modifier.isPrivate(field.getModifiers()) ? 1 : 0, 1);
        }
        DUE.is("constructors", HandsForAWheel.class.getConstructors().length, 1);
        DUE.is("final", Modifier.isFinal(HandsForAWheel.class.getModifiers()) ? 1 : 0, 1);
    }

    private static void words(String program) {
        String code = program.replaceAll("(?s)/\\*.*?\\*/", "").replaceAll("//.*", "");
        String[] refused = {"\\bthrows?\\b", "\\btry\\b", "\\bcatch\\b", "\\bsynchronized\\b", "\\bassert\\b", "\\bimport\\b",
            "Exact", "->", "::", "\\bnull\\b", "@", "\\bprotected\\b", "\\bpackage\\b"};
        for (String word : refused) {
            DUE.is("the program has " + word, Pattern.compile(word).matcher(code).find() ? 1 : 0, 0);
        }
    }
}
