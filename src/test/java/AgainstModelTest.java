import java.lang.reflect.Method;
import java.lang.reflect.Modifier;
import java.util.ArrayList;
import java.util.Arrays;
import java.util.Comparator;
import java.util.List;

/** Long runs of calls by lot: the class and the model must answer alike, each of them. */
public final class AgainstModelTest {
    private static final int RUNS = 600;
    private static final int CALLS = 512;
    private static final int CALLS_TO_TELL = 97;
    private static final int[] EXTREMES = {
        Integer.MIN_VALUE, Integer.MIN_VALUE + 1, -1000, -9, -2, -1, 6, 8, 10, 17, 100, 256, 1000,
        Integer.MAX_VALUE - 1, Integer.MAX_VALUE};
    private static final String[] TOLD = {
        "o#", "l###", "e#k=##", "e#k=##", "e#k@k", "e#k@k", "e#k+k##", "e#k!", "e#k[###]",
        "e#k[######]", "e#k[]", "e#k[############]", "e#k[###############]", "d#k", "mk#"};
    private static final int[] TO_BE_BIG = {2, 2, 3, 3, 3, 4, 0, 1};
    private static final int[] TO_BE_LONG = {2, 3};
    private static final int[] TO_BE_LISTS = {4, 4, 4, 4, 0, 1};
    private static final int[][] DENSE_MANNERS = {TO_BE_BIG, TO_BE_LONG, TO_BE_LISTS};

    private final Due due = new Due();
    private final int[] faultsSeen = new int[7];
    private int itemsMerged;
    private final List<Method> methods = new ArrayList<>();
    private long lot = 20261118;
    private Called real;
    private Model model;
    private StringBuilder history;
    private long answered;

    public static void main(String[] args) {
        new AgainstModelTest().run();
    }

    private void run() {
        for (Method method : SettingsInLayers.class.getDeclaredMethods()) {
            if (Modifier.isPublic(method.getModifiers())) {
                methods.add(method);
            }
        }
        methods.sort(Comparator.comparing(Method::getName));
        due.is("methods of the face", methods.size(), 35);
        for (int run = 0; run < RUNS && due.isAllRight(); run++) {
            oneRun(run);
        }
        rareOnesWereSeen();
        due.end();
    }

    /** A lot that never comes to a fault, or to a long list, would say nothing of it. */
    private void rareOnesWereSeen() {
        for (int code = 1; code < faultsSeen.length; code++) {
            due.is("fault " + code + " came in some runs", Math.min(faultsSeen[code], 20), 20);
        }
        due.is("lists of more than 5 items came in some runs", Math.min(itemsMerged, 20), 20);
    }

    private int below(int m) {
        lot = lot * 6364136223846793005L + 1442695040888963407L;
        return (int) ((lot >>> 33) % m);
    }

    /** Some runs begin with much told in letters, some with keys that go deep, some with nothing. */
    private void oneRun(int run) {
        real = new Called();
        model = new Model();
        history = new StringBuilder();
        int calls = 0;
        boolean isDense = run % 4 == 1;
        int beginnings = isDense || run % 4 == 3 ? 0 : 2 + run % 3;
        for (int i = 0; i < beginnings; i++) {
            calls += tell(false);
        }
        if (isDense) {
            calls += dense();
        }
        while (calls < CALLS && due.isAllRight()) {
            if (below(60) == 0 && calls + CALLS_TO_TELL <= CALLS) {
                calls += tell(below(2) == 0);
            } else {
                Method method = methods.get(below(methods.size()));
                calls += call(method, arguments(method));
            }
        }
    }

    /**
     * Nearly all layers on, and keys made of keys behind them: for sums too great, for the 61st key,
     * for lists merged of lists, which lots alone seldom come to.
     */
    private int dense() {
        int[] manners = DENSE_MANNERS[below(DENSE_MANNERS.length)];
        int calls = 0;
        for (int layer = 0; layer < 6; layer++) {
            boolean isToBeOn = below(20) != 0;
            calls += isToBeOn == (model.answer("layer", layer, 0) == 1) ? 0 : call(method("turns"), layer);
            for (int key = 0; key < 8; key++) {
                calls += below(8) == 0 ? 0 : denseEntry(layer, key, manners);
            }
        }
        for (int key = 0; key < 8; key++) {
            calls += call(method("manner"), key, manners[below(manners.length)]);
        }
        for (int key = 0; key < 8; key++) {
            calls += everyFault(key) + everyItem(key);
        }
        return calls;
    }

    private int denseEntry(int layer, int key, int[] manners) {
        boolean isLong = manners == TO_BE_LONG;
        if (key >= 6 || below(isLong ? 10 : 4) == 0) {
            return manners == TO_BE_LISTS ? denseList(layer, key)
                : call(method("sets"), layer, key, isLong ? below(5) : 60 + below(40));
        }
        int other = below(60) == 0 ? below(8) : key + 1 + below(Math.min(7 - key, isLong ? 2 : 3));
        boolean isSum = manners != TO_BE_LISTS && below(2) == 0;
        return call(method("refers"), layer, key, other, isSum ? below(isLong ? 3 : 100) : -1);
    }

    private int denseList(int layer, int key) {
        int calls = 0;
        int items = 1 + below(3);
        for (int i = 0; i < items; i++) {
            calls += call(method("adds"), layer, key, below(10), below(100));
        }
        return calls;
    }

    private int everyFault(int key) {
        int calls = 0;
        answered = 0;
        for (int k = 0; k <= 9 && answered >= 0; k++) {
            calls += call(method("fault"), key, k, 1) + call(method("fault"), key, k, 0);
        }
        return calls;
    }

    private int everyItem(int key) {
        int calls = 0;
        answered = 0;
        for (int i = 0; i <= 10 && answered >= 0; i++) {
            for (int what = 0; what < 3; what++) {
                calls += call(method("item"), key, i, what);
            }
        }
        return calls;
    }

    private int tell(boolean isSpoilt) {
        StringBuilder text = new StringBuilder();
        String statement = statement(isSpoilt);
        while (text.length() + statement.length() <= 96 && below(12) != 0) {
            text.append(statement);
            statement = statement(isSpoilt);
        }
        if (isSpoilt && text.length() > 0 && below(2) == 0) {
            text.setCharAt(below(text.length()), "lodem=[]@+!;09ahi?"
                .charAt(below(18)));
        }
        if (isSpoilt && text.length() > 0 && below(3) == 0) {
            text.setLength(below(text.length()));
        }
        for (int i = 0; i < text.length(); i++) {
            call(method("letter"), text.charAt(i));
        }
        return text.length() + call(method("settings"));
    }

    private String statement(boolean isWild) {
        StringBuilder filled = new StringBuilder();
        String form = TOLD[below(TOLD.length)];
        int item = below(10);
        for (int i = 0; i < form.length(); i++) {
            char c = form.charAt(i);
            int most = isWild && below(8) == 0 ? 10 : i == 1 ? 6 : form.startsWith("l") && i == 2 ? 6
                : form.startsWith("m") ? 5 : 10;
            if (c == 'k') {
                filled.append((char) ('a' + below(below(2) == 0 ? 4 : 8)));
            } else if (c == '#') {
                boolean isItemKey = form.indexOf('[') > 0 && i > 3 && i % 3 == 1;
                item += isItemKey ? (isWild && below(8) == 0 ? 0 : 1) : 0;
                filled.append((char) ('0' + (isItemKey ? item % 10 : below(most))));
            } else {
                filled.append(c);
            }
        }
        return filled.append(';').toString();
    }

    private Method method(String name) {
        for (Method method : methods) {
            if (method.getName().equals(name)) {
                return method;
            }
        }
        throw new IllegalStateException(name);
    }

    private int[] arguments(Method method) {
        int[] arguments = new int[method.getParameterCount()];
        for (int i = 0; i < arguments.length; i++) {
            arguments[i] = below(25) == 0
                ? EXTREMES[below(EXTREMES.length)] : usual(method.getName(), i);
        }
        return arguments;
    }

    private int usual(String name, int place) {
        switch (name + place) {
            case "letter0": return below(256);
            case "turns0": case "kind0": case "sets0": case "adds0": case "refers0": case "gap0":
            case "drops0": case "layer0": case "entry0": case "without0": case "set0": case "whatIs0":
                return below(6);
            case "kind1": case "layer1": return below(6);
            case "kind2": return below(10);
            case "manner1": return below(5);
            case "adds2": return below(10);
            case "refers3": return below(3) == 0 ? below(100) : -1;
            case "sets2": case "adds3": return below(4) == 0 ? 99 : below(100);
            case "missing2": return 2 + below(19);
            case "lots0": return 1 + below(20);
            case "lots1": return (int) (lot >>> 20);
            case "count0": return below(17);
            case "fault1": case "item1": return below(5);
            case "turn1": case "byManner1": case "missing1": return likely(below(8));
            case "set3": return likely(below(8)) + below(3);
            case "row0": return model.answer("count", 5) < 8 ? likely((int) model.answer("count", 5)) : below(101);
            default: return place == 0 || name.equals("refers") || name.equals("set") || place == 1 && keyIsSecond(name)
                ? below(8) : below(4) == 0 ? below(4) : below(2);
        }
    }

    private static boolean keyIsSecond(String name) {
        switch (name) {
            case "sets": case "adds": case "gap": case "drops": case "entry": case "without":
                return true;
            default:
                return false;
        }
    }

    /** A number that the key has, or would have without a layer. */
    private int likely(int key) {
        long n = below(2) == 0 ? model.answer("value", key, 1) : model.answer("without", below(6), key);
        return n < 0 ? 100 : (int) n;
    }

    private int call(Method method, int... arguments) {
        String told = method.getName() + Arrays.toString(arguments);
        long want = model.answer(method.getName(), arguments);
        answered = want;
        history.append(told).append(" = ").append(want).append('\n');
        if (method.getName().equals("fault") && arguments[2] == 0 && want > 0) {
            faultsSeen[(int) want]++;
        }
        if (method.getName().equals("item") && arguments[1] > 4 && want >= 0) {
            itemsMerged++;
        }
        try {
            due.is(told, real.answer(method.getName(), arguments), want);
        } catch (RuntimeException | StackOverflowError e) {
            due.fails(told + " threw " + e);
        }
        if (!due.isAllRight()) {
            System.out.println(history);
        }
        return 1;
    }
}
