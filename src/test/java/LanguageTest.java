import java.io.IOException;
import java.lang.reflect.Constructor;
import java.lang.reflect.Field;
import java.lang.reflect.Method;
import java.lang.reflect.Modifier;
import java.nio.file.Files;
import java.nio.file.Path;
import java.util.List;
import java.util.Set;
import java.util.TreeSet;
import java.util.regex.Matcher;
import java.util.regex.Pattern;
import java.util.stream.Collectors;
import java.util.stream.Stream;

/** The rules of LANGUAGE.md that can be looked at: the face, the words, the sizes. */
public final class LanguageTest {
    private static final Due DUE = new Due();
    private static final Path SOURCE = Path.of("src/main/java/SettingsInLayers.java");
    private static final Path DOCUMENT = Path.of("../shared/DOC.md");

    public static void main(String[] args) throws IOException {
        String source = Files.readString(SOURCE);
        face();
        classesInside();
        fields();
        words(withoutComments(source));
        calls(withoutComments(source));
        objects(withoutComments(source));
        lengths(List.of(source.split("\n")));
        DUE.end();
    }

    private static void none(String why, Iterable<String> found) {
        for (String each : found) {
            DUE.fails(why + ": " + each);
        }
        DUE.is(why, 0, 0);
    }

    private static String withoutComments(String source) {
        return source.replaceAll("(?s)/\\*.*?\\*/", "").replaceAll("//[^\n]*", "");
    }

    private static Set<String> faceOfDocument() throws IOException {
        Set<String> face = new TreeSet<>();
        Matcher matcher = Pattern.compile("\n    public (\\w+ )(\\w+)\\(([^)]*)\\);")
            .matcher(Files.readString(DOCUMENT));
        while (matcher.find()) {
            String types = matcher.group(3).replaceAll(" \\w+(?=,|$)", "").replace(" ", "");
            face.add(matcher.group(1) + matcher.group(2) + "(" + types + ")");
        }
        return face;
    }

    private static String told(Method method) {
        return method.getReturnType() + " " + method.getName()
            + Stream.of(method.getParameterTypes()).map(Class::getName)
                .collect(Collectors.joining(",", "(", ")"));
    }

    private static void face() throws IOException {
        Class<?> c = SettingsInLayers.class;
        Set<String> built = new TreeSet<>();
        for (Method method : c.getDeclaredMethods()) {
            if (Modifier.isPublic(method.getModifiers())) {
                built.add(told(method));
                DUE.is("no static one", Modifier.isStatic(method.getModifiers()) ? 1 : 0, 0);
            } else {
                DUE.is(method + " is private", Modifier.isPrivate(method.getModifiers()) ? 1 : 0, 1);
            }
        }
        DUE.is("the face: " + built, built.equals(faceOfDocument()) ? 1 : 0, 1);
        DUE.is("public and final", c.getModifiers() & (Modifier.PUBLIC | Modifier.FINAL),
            Modifier.PUBLIC | Modifier.FINAL);
        Constructor<?>[] constructors = c.getDeclaredConstructors();
        DUE.is("one constructor", constructors.length, 1);
        DUE.is("a public one", constructors[0].getModifiers(), Modifier.PUBLIC);
        DUE.is("without parameters", constructors[0].getParameterCount(), 0);
    }

    private static void classesInside() {
        Set<String> names = Stream.of(SettingsInLayers.class.getDeclaredMethods())
            .filter(method -> Modifier.isPublic(method.getModifiers()))
            .map(Method::getName).collect(Collectors.toSet());
        Class<?>[] classes = SettingsInLayers.class.getDeclaredClasses();
        DUE.is("few classes", classes.length <= 12 ? 1 : 0, 1);
        for (Class<?> c : classes) {
            DUE.is(c + " is static", Modifier.isStatic(c.getModifiers()) ? 1 : 0, 1);
            DUE.is(c + " is not public", Modifier.isPublic(c.getModifiers()) ? 1 : 0, 0);
            for (Method method : c.getDeclaredMethods()) {
                DUE.is(method + " has a name of its own", names.contains(method.getName()) ? 1 : 0, 0);
                DUE.is(method + " has few parameters", method.getParameterCount() <= 7 ? 1 : 0, 1);
            }
        }
    }

    private static void fields() {
        Stream.concat(Stream.of(SettingsInLayers.class),
            Stream.of(SettingsInLayers.class.getDeclaredClasses())).forEach(c -> {
                int ofObjects = 0;
                for (Field field : c.getDeclaredFields()) {
                    boolean isStatic = Modifier.isStatic(field.getModifiers());
                    ofObjects += isStatic ? 0 : 1;
                    DUE.is(field + " is final, if static",
                        !isStatic || Modifier.isFinal(field.getModifiers()) ? 1 : 0, 1);
                    DUE.is(field + " is of the constants, if static", !isStatic
                        || field.getType() == int.class || field.getType() == long.class ? 1 : 0, 1);
                    DUE.is(field + " is private in the face", c != SettingsInLayers.class
                        || Modifier.isPrivate(field.getModifiers()) ? 1 : 0, 1);
                }
                DUE.is(c + " has few fields", ofObjects <= 20 ? 1 : 0, 1);
            });
    }

    private static void words(String code) {
        none("a word that the language has not", Pattern.compile(
            "\\b(throw|throws|try|catch|finally|synchronized|assert|yield|float|double|System\\.out"
            + "|Exception|Random|nanoTime|hashCode|toString)\\b|->|::|@|\"|Exact\\b")
            .matcher(code.replaceAll("'[^']*'", "' '")).results().map(r -> r.group())
            .collect(Collectors.toList()));
        none("an import but Arrays", Pattern.compile("import (?!java\\.util\\.Arrays;).*")
            .matcher(code).results().map(r -> r.group()).collect(Collectors.toList()));
        none("a sign above 127", Pattern.compile("[^\\x00-\\x7e]").matcher(code).results()
            .map(r -> r.group()).collect(Collectors.toList()));
        DUE.is("no package", code.contains("package ") ? 1 : 0, 0);
    }

    private static void calls(String code) {
        Set<String> library = Set.of("System.arraycopy", "Arrays.fill", "Integer.bitCount", "Math.max");
        none("of the library", Pattern.compile("\\b(System|Arrays|Integer|Long|Math|String)\\.\\w+")
            .matcher(code).results().map(r -> r.group()).filter(call -> !library.contains(call))
            .collect(Collectors.toList()));
    }

    /** Objects are made in constructors alone: with the fields, or to fill a row of these. */
    private static void objects(String code) {
        none("an object made by a call", Stream.of(code.split("\n"))
            .filter(line -> Pattern.compile("\\bnew\\b").matcher(line).find())
            .filter(line -> !line.matches("\\s+(private )?final [\\w\\[\\]]+ \\w+ = new [\\w ()*\\[\\]]+;"))
            .filter(line -> !line.strip().equals("present[key] = new Outcome();"))
            .filter(line -> !line.strip().equals("levels[depth] = new Outcome();"))
            .collect(Collectors.toList()));
    }

    private static void lengths(List<String> lines) {
        int begun = 0;
        for (int i = 0; i < lines.size(); i++) {
            String line = lines.get(i);
            if (line.matches("( {4}| {8})\\S.*\\) \\{")) {
                begun = i;
            }
            if (line.matches("( {4}| {8})\\}")) {
                DUE.is("short: " + lines.get(begun).strip(), i - begun <= 60 || begun == 0 ? 1 : 0, 1);
            }
            DUE.is("line " + (i + 1) + " is not long", line.length() <= 100 ? 1 : 0, 1);
        }
    }
}
