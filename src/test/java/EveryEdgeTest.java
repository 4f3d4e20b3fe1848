import java.io.IOException;
import java.nio.file.Files;
import java.nio.file.Path;
import java.util.Arrays;
import java.util.LinkedHashMap;
import java.util.Map;
import java.util.regex.Matcher;
import java.util.regex.Pattern;

/**
 * Each call of the face with all edges of its arguments, one with the other, in several states: the
 * answer, what is counted and all that is there behind it must be the model's.
 */
public final class EveryEdgeTest {
    private static final Due DUE = new Due();
    private static final int MIN = Integer.MIN_VALUE;
    private static final int MAX = Integer.MAX_VALUE;
    private static final String MERGED = """
        turns 0; turns 1; turns 2; turns 3; kind 1 2 8; kind 2 5 3; kind 3 4 9
        manner 0 4; manner 1 2; manner 2 3; manner 3 1
        adds 0 0 1 5; adds 0 0 2 6; adds 1 0 2 7; adds 1 0 3 8; adds 2 0 3 9
        refers 0 1 4 50; refers 1 1 4 -1; sets 2 1 7; sets 0 2 9; sets 2 2 9; refers 0 3 0 -1; sets 3 3 3
        sets 0 4 9; refers 0 5 6 -1; refers 0 6 5 -1; gap 1 7; sets 0 7 5; image
        adds 1 0 4 9; adds 1 0 5 9; drops 2 1; turns 5; sets 5 4 0; manner 4 1; kind 5 5 5
        row 100; row 68; row 9; row 100; letter 109; letter 97
        """;
    private static final String[] STATES = {RefusalsTest.NEW, RefusalsTest.BUSY, RefusalsTest.FULL, MERGED};

    private EveryEdgeTest() {
    }

    public static void main(String[] args) throws IOException {
        Map<String, String[]> face = face();
        DUE.is("calls of the face", face.size(), 35);
        for (String state : STATES) {
            String untouched = Probe.of(made(new Called(), state));
            DUE.is("the states are alike", untouched.equals(Probe.of(made(new Model(), state))) ? 1 : 0, 1);
            face.forEach((name, parameters) -> all(state, untouched, name, parameters));
        }
        DUE.end();
    }

    /** The document's face: names of calls and of their parameters. */
    private static Map<String, String[]> face() throws IOException {
        Map<String, String[]> face = new LinkedHashMap<>();
        Matcher matcher = Pattern.compile("\n    public (?:int|long) (\\w+)\\(([^)]*)\\);")
            .matcher(Files.readString(Path.of("../shared/DOC.md")));
        while (matcher.find()) {
            String parameters = matcher.group(2).replaceAll("\\w+ (\\w+),? ?", "$1 ").strip();
            face.put(matcher.group(1), parameters.isEmpty() ? new String[0] : parameters.split(" "));
        }
        return face;
    }

    private static int[] edges(String name, String parameter) {
        switch (parameter) {
            case "c": return new int[] {MIN, -1, 0, 59, 255, 256, MAX};
            case "layer": return new int[] {MIN, -1, 0, 1, 3, 5, 6};
            case "kind": return new int[] {-1, 0, 1, 2, 3, 4, 5, 6, MAX};
            case "figure": return new int[] {-1, 0, 7, 9, 10, MAX};
            case "manner": return new int[] {-1, 0, 1, 2, 3, 4, 5, MAX};
            case "item": return new int[] {-1, 0, 1, 9, 10};
            case "what": return new int[] {MIN, -1, 0, 1, 2, 3, 4, 5, 6, 7, 10, 11, 12, 13, 14, 15, 16, 17};
            case "i": case "k": return new int[] {MIN, -1, 0, 1, 2, 3, 4, 9, MAX};
            case "v": return new int[] {MIN, -1, 0, 30, 99, 100, 101, 999, 1000};
            case "t": return new int[] {MIN, 1, 2, 20, 21};
            case "part": return new int[] {-1, 0, 1, 2};
            case "z": return new int[] {MIN, -1, 0, MAX};
            case "n": return name.equals("lots")
                ? new int[] {MIN, 0, 1, 2, 20, 21} : new int[] {-2, -1, 0, 99, 100};
            default: return new int[] {-1, 0, 1, 3, 5, 7, 8};
        }
    }

    private static <T extends Answers> T made(T x, String state) {
        Runs.begin(x, state);
        return x;
    }

    private static void all(String state, String untouched, String name, String[] parameters) {
        int[] at = new int[parameters.length];
        int[] numbers = new int[parameters.length];
        int place = 0;
        while (place < at.length || at.length == 0) {
            for (int i = 0; i < at.length; i++) {
                numbers[i] = edges(name, parameters[i])[at[i]];
            }
            one(state, untouched, name, numbers);
            for (place = 0; place < at.length; place++) {
                at[place]++;
                if (at[place] < edges(name, parameters[place]).length) {
                    break;
                }
                at[place] = 0;
            }
            if (at.length == 0) {
                return;
            }
        }
    }

    private static void one(String state, String untouched, String name, int[] numbers) {
        Called x = made(new Called(), state);
        Model model = made(new Model(), state);
        long before = refusals(model);
        String call = name + " " + Arrays.toString(numbers);
        DUE.is(call, x.answer(name, numbers), model.answer(name, numbers));
        for (int what = 11; what <= 16; what++) {
            DUE.is(call + ": count " + what, x.answer("count", what), model.answer("count", what));
        }
        String due = refusals(model) != before || changesNothing(name) ? untouched : Probe.of(model);
        DUE.is(call + ": what is there", Probe.of(x).equals(due) ? 1 : 0, 1);
    }

    private static long refusals(Answers x) {
        long sum = 0;
        for (int what = 11; what <= 16; what++) {
            sum += x.answer("count", what);
        }
        return sum;
    }

    private static boolean changesNothing(String name) {
        switch (name) {
            case "letter": case "settings": case "turns": case "kind": case "manner": case "sets":
            case "adds": case "refers": case "gap": case "drops": case "row": case "judge": case "clear":
            case "image": case "on":
                return false;
            default:
                return true;
        }
    }
}
