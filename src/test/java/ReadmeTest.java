import java.io.File;
import java.io.IOException;
import java.nio.file.Files;
import java.nio.file.Path;
import java.util.regex.Matcher;
import java.util.regex.Pattern;

/** README.md: its examples answer what it says, and it names every call and every test. */
public final class ReadmeTest {
    private static final Due DUE = new Due();
    private static final Pattern CALL =
        Pattern.compile("\\bx\\.(\\w+)\\(([-\\d, ]*)\\);(?:\\s*// (-?\\d+)\\b)?");
    private static final Pattern LETTERS = Pattern.compile("\"([^\"]+)\"\\.toCharArray\\(\\)");

    private ReadmeTest() {
    }

    public static void main(String[] args) throws IOException {
        String readme = Files.readString(Path.of("README.md"));
        examples(readme);
        namesEveryCall(readme);
        namesEveryTest(readme);
        DUE.end();
    }

    private static void examples(String readme) {
        Matcher block = Pattern.compile("(?s)```java\n(.*?)```").matcher(readme);
        Called x = new Called();
        int looked = 0;
        while (block.find()) {
            for (String line : block.group(1).split("\n")) {
                x = line.contains("new SettingsInLayers()") ? new Called() : x;
                looked += example(x, line);
            }
        }
        DUE.is("examples that tell an answer: " + looked, looked >= 10 ? 1 : 0, 1);
    }

    private static int example(Called x, String line) {
        Matcher letters = LETTERS.matcher(line);
        if (letters.find()) {
            letters.group(1).chars().forEach(c -> x.answer("letter", c));
            return 0;
        }
        Matcher call = CALL.matcher(line);
        if (!call.find()) {
            return 0;
        }
        long got = x.answer(call.group(1), numbers(call.group(2)));
        if (call.group(3) == null) {
            return 0;
        }
        DUE.is("README: " + line.strip(), got, Long.parseLong(call.group(3)));
        return 1;
    }

    private static int[] numbers(String told) {
        return Pattern.compile("-?\\d+").matcher(told).results()
            .mapToInt(r -> Integer.parseInt(r.group())).toArray();
    }

    private static void namesEveryCall(String readme) throws IOException {
        Matcher face = Pattern.compile("\n    public (?:int|long) (\\w+)\\(")
            .matcher(Files.readString(Path.of("../shared/DOC.md")));
        int calls = 0;
        while (face.find()) {
            calls++;
            String name = face.group(1);
            DUE.is("README names " + name, readme.contains("`" + name + "`") ? 1 : 0, 1);
        }
        DUE.is("calls of the face", calls, 35);
    }

    private static void namesEveryTest(String readme) {
        String[] tests = new File("src/test/java").list((folder, name) -> name.endsWith("Test.java"));
        DUE.is("there are tests", tests != null && tests.length > 0 ? 1 : 0, 1);
        for (String file : tests == null ? new String[0] : tests) {
            String name = file.replace(".java", "");
            DUE.is("README names " + name, readme.contains("`" + name + "`") ? 1 : 0, 1);
        }
    }
}
