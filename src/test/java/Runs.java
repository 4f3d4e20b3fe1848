import java.io.IOException;
import java.io.UncheckedIOException;
import java.nio.file.Files;
import java.nio.file.Path;
import java.util.ArrayList;
import java.util.List;

/**
 * Runs of calls on new objects, told as text: calls with "; " between them or a line each, with
 * " = " and the answer that is due, if it is to be looked at. "tell o0;e0a=05; = 2" puts letters and
 * then asks for settings; "8* row 1 = 8" calls eight times, the answer is the last one's. MIN and
 * MAX are the least and the greatest int. Each run names the sentence of the document it is for.
 */
final class Runs {
    private static final String DOCUMENT = read(Path.of("../shared/DOC.md"));
    private final Due due;
    private final List<String> quotes = new ArrayList<>();

    Runs(Due due) {
        this.due = due;
    }

    private static String read(Path path) {
        try {
            return Files.readString(path);
        } catch (IOException e) {
            throw new UncheckedIOException(e);
        }
    }

    void run(String sentence, String calls) {
        due.is("the document says: " + sentence, DOCUMENT.contains(sentence) ? 1 : 0, 1);
        quotes.add(sentence);
        Called x = new Called();
        for (String line : calls.split("\n")) {
            line(sentence, x, line.strip());
        }
    }

    /** Fails for a promise of which no run quotes a sentence. */
    void eachPromiseIsQuoted() {
        int promise = 0;
        for (String line : DOCUMENT.split("\n")) {
            promise += line.startsWith("## Promise ") ? 1 : 0;
            if (promise > 0 && line.startsWith("`")) {
                due.is("promise " + promise + " has a run", quotes.stream().anyMatch(line::contains) ? 1 : 0, 1);
            }
        }
        due.is("promises", promise, 36);
    }

    private void line(String sentence, Answers x, String line) {
        if (line.startsWith("tell ")) {
            one(sentence, x, line);
            return;
        }
        for (String call : line.split("; ")) {
            one(sentence, x, call);
        }
    }

    private void one(String sentence, Answers x, String told) {
        int sign = told.lastIndexOf(" = ");
        String call = sign < 0 ? told : told.substring(0, sign);
        long got = call.isBlank() ? 0 : answer(x, call);
        if (sign >= 0) {
            due.is(sentence + ": " + call, got, Long.parseLong(told.substring(sign + 3).strip()));
        }
    }

    /** Calls without the answers that are due, for an object to begin with. */
    static void begin(Answers x, String calls) {
        for (String line : calls.split("\n")) {
            for (String call : line.strip().startsWith("tell ") ? new String[] {line} : line.split("; ")) {
                if (!call.isBlank()) {
                    answer(x, call.strip());
                }
            }
        }
    }

    /** What the last of these calls answers. */
    static long answer(Answers x, String told) {
        if (told.startsWith("tell ")) {
            return tell(x, told.substring(5));
        }
        String[] words = told.strip().split(" +");
        int from = words[0].endsWith("*") ? 1 : 0;
        int times = from == 0 ? 1 : Integer.parseInt(words[0].substring(0, words[0].length() - 1));
        int[] numbers = new int[words.length - from - 1];
        for (int i = 0; i < numbers.length; i++) {
            numbers[i] = number(words[from + 1 + i]);
        }
        long last = 0;
        for (int i = 0; i < times; i++) {
            last = x.answer(words[from], numbers);
        }
        return last;
    }

    private static long tell(Answers x, String text) {
        for (int i = 0; i < text.length(); i++) {
            x.answer("letter", text.charAt(i));
        }
        return x.answer("settings");
    }

    private static int number(String word) {
        switch (word) {
            case "MIN": return Integer.MIN_VALUE;
            case "MAX": return Integer.MAX_VALUE;
            default: return Integer.parseInt(word);
        }
    }
}
