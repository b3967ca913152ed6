import java.io.File;
import java.io.IOException;
import java.nio.file.Files;
import java.nio.file.Path;
import java.util.regex.Matcher;
import java.util.regex.Pattern;

/** What README.md tells of the class holds: its examples answer as it says, and it names every test and every call. */
public final class ReadmeTest {
    private static final Due DUE = new Due("ReadmeTest");

    public static void main(String[] args) throws IOException {
        String readme = Files.readString(Path.of("README.md"));
        examples(readme);
        for (String file : new File("src/test/java").list()) {
            String test = file.replace(".java", "");
            DUE.is("README names " + test, readme.contains("`" + test + "`") ? 1 : 0, 1);
        }
        Matcher face = Pattern.compile("public int (\\w+)\\(").matcher(Files.readString(Path.of("../shared/DOC.md")));
        while (face.find()) {
            boolean named = Pattern.compile("\\b" + face.group(1) + "\\(").matcher(readme).find();
            DUE.is("README names " + face.group(1) + "()", named ? 1 : 0, 1);
        }
        DUE.end();
    }

    /** Each block begins with a new object; a line without a number behind "//" is called, too. */
    private static void examples(String readme) {
        Pattern call = Pattern.compile("x\\.(\\w+)\\(([-0-9, ]*|'.')\\);(\\s*// (-?\\d+))?");
        int looked = 0;
        HandsForAWheel x = new HandsForAWheel();
        for (String line : readme.split("\n")) {
            if (line.startsWith("```java")) {
                x = new HandsForAWheel();
            }
            Matcher m = call.matcher(line);
            if (m.find()) {
                int answer = Due.call(x, (m.group(1) + " " + numbers(m.group(2))).strip());
                if (m.group(4) != null) {
                    DUE.is("README: " + m.group(), answer, Integer.parseInt(m.group(4)));
                    looked++;
                }
            }
        }
        DUE.is("README has examples", looked >= 12 ? 1 : 0, 1);
    }

    private static String numbers(String told) {
        return told.startsWith("'") ? String.valueOf((int) told.charAt(1)) : told.replace(",", "");
    }
}
