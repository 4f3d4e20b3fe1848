/**
 * Each refused call: its answer, which refusal comes first where two would hold, that just that one
 * is counted, and that nothing has become otherwise behind it: a twin that was not called is read.
 */
public final class RefusalsTest {
    private static final Due DUE = new Due();
    private static final long LONG = 4000000000000000000L;

    /**
     * Layers of all sorts that are ON and off, entries of all forms, a full list (0 3), an empty
     * one (1 7), a row that is so, an open text, an image that is otherwise, refusals of each code.
     */
    static final String BUSY = """
        tell e1h[];
        turns 0; turns 1; turns 3; kind 1 2 5; kind 2 5 3; kind 4 4 0; manner 0 2; manner 3 4
        sets 0 0 10; sets 1 0 20; adds 0 3 1 5; adds 0 3 2 6; adds 0 3 3 7; adds 0 3 9 8; adds 1 3 4 11
        refers 1 1 0 -1; refers 3 2 1 7; gap 3 4; refers 0 5 5 -1
        image; sets 3 6 42; drops 1 3; turns 4; row 30; row 30
        turns 9; all 9; adds 0 0 1 1; letter -1; letter 300
        letter 101; letter 53; letter 104; letter 61; letter 52
        """;
    /** As that, but no letter and no number of the row has room; the row is so, the text whole. */
    static final String FULL = BUSY + "row 37; 3* row 100; row 42; row 100\n"
        + letters("2;" + "o0;".repeat(28) + "l253;");
    static final String NEW = "";
    private static String state = BUSY;
    private static String twin;

    private RefusalsTest() {
    }

    public static void main(String[] args) {
        stateIs(BUSY);
        layersAndManners();
        sets();
        adds();
        refersAndGapsAndDrops();
        layerAndEntry();
        valueAndItem();
        faultAndSources();
        usesAndAll();
        hiddenToTurn();
        setAndByManner();
        missing();
        missingInOrder();
        meanAndWhatIs();
        lettersAndRows();
        lots();
        stateIs(FULL);
        lettersAndRows();
        lettersAndRowsThatAreFull();
        stateIs(NEW);
        lettersAndRows();
        withoutImage();
        DUE.end();
    }

    private static String letters(String text) {
        StringBuilder calls = new StringBuilder();
        for (int i = 0; i < text.length(); i++) {
            calls.append("letter ").append((int) text.charAt(i)).append('\n');
        }
        return calls.toString();
    }

    private static void stateIs(String told) {
        state = told;
        twin = Probe.of(made());
    }

    private static Called made() {
        Called x = new Called();
        Runs.begin(x, state);
        return x;
    }

    private static void refused(int code, String call) {
        Called x = made();
        long[] before = refusals(x);
        long got = Runs.answer(x, call);
        boolean isLong = call.startsWith("missing") || call.startsWith("mean");
        DUE.is(call, got, isLong ? LONG - code : code);
        long[] behind = refusals(x);
        for (int i = 0; i < before.length; i++) {
            DUE.is(call + ": count " + (11 + i), behind[i], before[i] + (i == -code - 1 ? 1 : 0));
        }
        DUE.is(call + ": nothing is otherwise", Probe.of(x).equals(twin) ? 1 : 0, 1);
    }

    private static long[] refusals(Answers x) {
        long[] refusals = new long[6];
        for (int i = 0; i < refusals.length; i++) {
            refusals[i] = x.answer("count", 11 + i);
        }
        return refusals;
    }

    /** Refused with one code, whichever of these calls it is. */
    private static void each(int code, String... calls) {
        for (String call : calls) {
            refused(code, call);
        }
    }

    private static void layersAndManners() {
        each(-1, "turns -1", "turns 6", "turns MIN", "turns MAX");
        each(-1, "kind -1 0 0", "kind 6 0 0", "kind MIN 0 0", "kind MAX 0 0");
        each(-1, "kind 6 6 0", "kind -1 -1 0", "kind 6 0 -1", "kind 6 0 10", "kind -1 6 10", "kind -1 -1 -1");
        each(-2, "kind 0 -1 0", "kind 0 6 0", "kind 5 MIN 0", "kind 5 MAX 0");
        each(-2, "kind 0 6 -1", "kind 0 -1 -1", "kind 0 6 10", "kind 0 -1 10");
        each(-4, "kind 0 0 -1", "kind 5 5 -1", "kind 0 0 MIN");
        each(-6, "kind 0 0 10", "kind 5 5 10", "kind 0 0 MAX");
        each(-1, "manner -1 0", "manner 8 0", "manner MIN 0", "manner MAX 0");
        each(-1, "manner 8 5", "manner -1 -1");
        each(-2, "manner 0 -1", "manner 0 5", "manner 7 MIN", "manner 7 MAX");
    }

    private static void sets() {
        each(-1, "sets -1 0 0", "sets 6 0 0", "sets 0 -1 0", "sets 0 8 0", "sets 6 8 0", "sets MIN MAX 0");
        each(-1, "sets 6 0 -1", "sets 0 8 -1", "sets 6 0 100", "sets 0 8 100", "sets MAX 0 0", "sets 0 MIN 0");
        each(-4, "sets 0 0 -1", "sets 5 7 -1", "sets 0 3 MIN");
        each(-6, "sets 0 0 100", "sets 5 7 100", "sets 0 3 MAX");
    }

    private static void adds() {
        each(-1, "adds -1 0 0 0", "adds 6 0 0 0", "adds 0 -1 0 0", "adds 0 8 0 0", "adds MAX MIN 0 0");
        each(-1, "adds 6 0 -1 0", "adds 0 8 0 -1", "adds 6 0 10 0", "adds 0 8 0 100", "adds MIN 3 1 1");
        each(-3, "adds 0 0 1 1", "adds 1 1 1 1", "adds 3 2 1 1", "adds 3 4 1 1");
        each(-3, "adds 0 3 1 1", "adds 0 3 2 0", "adds 0 3 3 99", "adds 0 3 9 8");
        each(-3, "adds 0 0 -1 1", "adds 0 0 1 -1", "adds 1 1 10 1", "adds 3 2 1 100", "adds 3 4 MIN MAX");
        each(-3, "adds 0 3 1 -1", "adds 0 3 9 100", "adds 0 3 2 MIN", "adds 0 3 3 MAX");
        each(-4, "adds 0 3 -1 1", "adds 0 3 4 -1", "adds 5 7 -1 1", "adds 5 7 1 -1", "adds 1 7 MIN 1");
        each(-4, "adds 5 7 -1 -1", "adds 5 7 -1 100", "adds 5 7 10 -1", "adds 0 3 10 -1", "adds 0 3 -1 100");
        each(-6, "adds 0 3 4 1", "adds 0 3 0 0", "adds 0 3 8 99", "adds 0 3 10 1", "adds 0 3 4 100");
        each(-6, "adds 5 7 10 1", "adds 5 7 1 100", "adds 1 7 10 0", "adds 1 7 9 100", "adds 5 7 MAX MAX");
    }

    private static void refersAndGapsAndDrops() {
        each(-1, "refers -1 0 0 -1", "refers 6 0 0 -1", "refers 0 -1 0 -1", "refers 0 8 0 -1");
        each(-1, "refers 0 0 -1 -1", "refers 0 0 8 -1", "refers MIN 0 0 0", "refers 0 MAX 0 0", "refers 0 0 MIN 0");
        each(-1, "refers 6 0 0 -2", "refers 0 8 0 -2", "refers 0 0 8 -2", "refers 6 0 0 100", "refers 0 8 0 100");
        each(-1, "refers 0 0 -1 100", "refers 6 8 8 0");
        each(-4, "refers 0 0 0 -2", "refers 5 7 7 -2", "refers 0 3 0 MIN");
        each(-6, "refers 0 0 0 100", "refers 5 7 7 100", "refers 0 3 0 MAX");
        each(-1, "gap -1 0", "gap 6 0", "gap 0 -1", "gap 0 8", "gap 6 8", "gap MIN 0", "gap 0 MAX");
        each(-1, "drops -1 0", "drops 6 0", "drops 0 -1", "drops 0 8", "drops 6 8", "drops MAX 0", "drops 0 MIN");
        each(-1, "drops 5 7", "drops 2 0", "drops 0 1", "drops 1 3");
    }

    private static void layerAndEntry() {
        each(-1, "layer -1 0", "layer 6 0", "layer MIN 0", "layer MAX 0", "layer 6 6", "layer -1 -1");
        each(-2, "layer 0 -1", "layer 0 6", "layer 5 MIN", "layer 5 MAX");
        each(-1, "entry -1 0 0", "entry 6 0 0", "entry 0 -1 0", "entry 0 8 0", "entry MIN 0 0", "entry 0 MAX 0");
        each(-1, "entry 5 7 0", "entry 1 3 0", "entry 2 0 2");
        each(-1, "entry 6 0 3", "entry 0 8 -1", "entry 5 7 3", "entry 5 7 -1");
        each(-2, "entry 0 0 3", "entry 0 0 -1", "entry 0 3 3", "entry 3 4 MIN", "entry 1 7 MAX");
    }

    private static void valueAndItem() {
        each(-1, "value -1 0", "value 8 0", "value MIN 0", "value MAX 0", "value 8 4", "value -1 -1");
        each(-2, "value 0 4", "value 0 -1", "value 7 4", "value 4 MIN", "value 4 MAX");
        each(-1, "item -1 0 0", "item 8 0 0", "item MIN 0 0", "item MAX 0 0", "item 8 0 3", "item -1 9 -1");
        each(-1, "item 0 0 0", "item 4 0 0", "item 5 0 0", "item 7 0 0", "item 0 0 3", "item 4 0 -1");
        each(-1, "item 3 -1 0", "item 3 4 0", "item 3 MIN 0", "item 3 MAX 0", "item 3 4 3", "item 3 -1 -1");
        each(-2, "item 3 0 3", "item 3 3 -1", "item 3 3 3", "item 3 0 MIN", "item 3 0 MAX");
    }

    private static void faultAndSources() {
        each(-1, "fault -1 0 0", "fault 8 0 0", "fault MIN 0 0", "fault MAX 0 0", "fault 8 0 2", "fault -1 9 -1");
        each(-1, "fault 0 0 0", "fault 3 0 0", "fault 7 0 0", "fault 0 0 2", "fault 3 0 -1");
        each(-1, "fault 4 -1 0", "fault 4 1 0", "fault 5 2 0", "fault 4 MIN 0", "fault 4 MAX 0", "fault 5 2 2");
        each(-2, "fault 4 0 2", "fault 4 0 -1", "fault 5 1 2", "fault 5 1 -1", "fault 5 0 MIN", "fault 5 0 MAX");
        each(-1, "sources -1 0", "sources 8 0", "sources MIN 0", "sources MAX 0", "sources 8 2", "sources -1 -1");
        each(-3, "sources 4 0", "sources 5 1", "sources 4 2", "sources 5 -1", "sources 4 MAX");
        each(-2, "sources 0 2", "sources 0 -1", "sources 3 2", "sources 3 MIN", "sources 3 MAX");
    }

    private static void usesAndAll() {
        each(-1, "uses -1 0", "uses 8 0", "uses MIN 1", "uses MAX 1", "uses 8 2", "uses -1 -1");
        each(-2, "uses 0 2", "uses 0 -1", "uses 7 MIN", "uses 7 MAX");
        each(-2, "all 3", "all -1", "all MIN", "all MAX");
    }

    private static void hiddenToTurn() {
        each(-1, "hidden -1", "hidden 8", "hidden MIN", "hidden MAX");
        each(-1, "without -1 0", "without 6 0", "without 0 -1", "without 0 8", "without 6 8", "without MAX MIN");
        each(-1, "turn -1 0", "turn 8 0", "turn MIN 0", "turn MAX 0");
        each(-1, "turn 8 -1", "turn -1 -1", "turn 8 1000", "turn -1 1000");
        each(-4, "turn 0 -1", "turn 7 -1", "turn 0 MIN", "turn 0 -9");
        each(-6, "turn 0 1000", "turn 7 1000", "turn 0 MAX");
    }

    private static void setAndByManner() {
        each(-1, "set -1 0 0 0", "set 6 0 0 0", "set 0 -1 0 0", "set 0 8 0 0", "set 0 0 -1 0", "set 0 0 8 0");
        each(-1, "set MIN 0 0 0", "set 0 MAX 0 0", "set 0 0 MIN 0", "set 6 8 8 0");
        each(-1, "set 6 0 0 -1", "set 0 8 0 -1", "set 0 0 8 -1", "set -1 0 0 1000", "set 0 -1 0 1000");
        each(-1, "set 0 0 -1 1000");
        each(-4, "set 0 0 0 -1", "set 5 7 7 -1", "set 0 0 0 MIN", "set 0 0 0 -9");
        each(-6, "set 0 0 0 1000", "set 5 7 7 1000", "set 0 0 0 MAX");
        each(-1, "byManner -1 0", "byManner 8 0", "byManner MIN 0", "byManner MAX 0");
        each(-1, "byManner 8 -1", "byManner -1 -1", "byManner 8 1000", "byManner -1 1000");
        each(-4, "byManner 0 -1", "byManner 7 -1", "byManner 0 MIN", "byManner 7 -9");
        each(-6, "byManner 0 1000", "byManner 7 1000", "byManner 0 MAX");
    }

    private static void missing() {
        each(-1, "missing -1 0 2 0", "missing 8 0 2 0", "missing MIN 0 2 0", "missing MAX 0 2 0");
        each(-4, "missing 0 -1 2 0", "missing 7 -1 20 1", "missing 0 MIN 2 0", "missing 7 -9 2 0");
        each(-4, "missing 0 0 1 0", "missing 7 999 1 1", "missing 0 0 0 0", "missing 0 0 -1 0", "missing 0 0 MIN 0");
        each(-6, "missing 0 1000 2 0", "missing 7 1000 20 1", "missing 0 MAX 2 0");
        each(-6, "missing 0 0 21 0", "missing 7 999 21 1", "missing 0 0 MAX 0");
        each(-2, "missing 0 0 2 -1", "missing 0 0 2 2", "missing 7 999 20 MIN", "missing 7 999 20 MAX");
    }

    private static void missingInOrder() {
        each(-1, "missing 8 -1 2 0", "missing 8 0 1 0", "missing -1 1000 2 0", "missing -1 0 21 0");
        each(-1, "missing 8 0 2 2", "missing -1 -1 1 -1", "missing 8 1000 21 2");
        each(-4, "missing 0 -1 21 0", "missing 0 1000 1 0", "missing 0 -1 1 0");
        each(-4, "missing 0 -1 2 2", "missing 0 0 1 2", "missing 0 -1 21 -1", "missing 0 1000 1 -1");
        each(-6, "missing 0 1000 21 0", "missing 0 1000 2 2", "missing 0 0 21 2", "missing 0 1000 21 -1");
    }

    private static void meanAndWhatIs() {
        each(-2, "mean -1", "mean 2", "mean MIN", "mean MAX");
        each(-1, "whatIs -1 0", "whatIs 6 0", "whatIs MIN 1", "whatIs MAX 1", "whatIs 6 2", "whatIs -1 -1");
        each(-2, "whatIs 0 2", "whatIs 0 -1", "whatIs 5 MIN", "whatIs 5 MAX");
    }

    private static void lettersAndRows() {
        each(-4, "letter -1", "letter MIN", "row -1", "row MIN");
        each(-6, "letter 256", "letter MAX", "row 101", "row MAX");
    }

    private static void lettersAndRowsThatAreFull() {
        DUE.is("96 letters", Runs.answer(made(), "count 6"), 96);
        DUE.is("a whole text", Runs.answer(made(), "settings"), 30);
        DUE.is("8 in the ROW", Runs.answer(made(), "count 5"), 8);
        DUE.is("which is so", Runs.answer(made(), "judge"), -9);
        each(-6, "letter 0", "letter 255", "letter 59", "letter 111", "row 0", "row 100", "row 30");
    }

    private static void lots() {
        each(-4, "lots 0 0 0", "lots -1 0 1", "lots MIN 0 0", "lots 0 MIN 2", "lots 0 0 -1");
        each(-6, "lots 21 0 0", "lots MAX 0 1", "lots 21 MAX 2", "lots 21 0 -1");
        each(-2, "lots 1 0 2", "lots 20 0 -1", "lots 1 0 MIN", "lots 20 0 MAX");
    }

    private static void withoutImage() {
        each(-3, "since", "on");
        each(-1, "drops 0 0", "entry 0 0 0", "entry 0 0 3", "item 0 0 0", "item 0 0 3", "fault 0 1 0");
        each(-3, "sources 0 0", "sources 7 1", "sources 0 2");
        each(-2, "fault 0 0 2", "value 0 4", "mean 2");
    }
}
