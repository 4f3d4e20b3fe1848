import java.util.Arrays;

/**
 * Settings in layers, as ../shared/DOC.md promises them. The names here follow that page's words.
 *
 * <p>All rows are made in constructors and used again: no call makes an object.
 */
public final class SettingsInLayers {
    private static final int LAYERS = 6;
    private static final int LAYER_SETS = 64;
    private static final int KEYS = 8;
    private static final int SLOTS = 48;
    private static final int MOST_NUMBER = 99;
    private static final int MOST_TOTAL = 999;
    private static final int MOST_FIGURE = 9;
    private static final int MOST_ITEM_KEY = 9;
    private static final int MOST_ITEMS = 4;
    private static final int MOST_MERGED_ITEMS = 10;
    private static final int MOST_LETTERS = 96;
    private static final int MOST_RESOLVED = 60;
    private static final int MOST_LOTS = 20;
    private static final int MOST_ODDS = 20;
    /** All keys may be open at once, and one more resolved, which is then a cycle. */
    private static final int LEVELS = 9;

    private static final int KINDS = 6;
    private static final int FILE = 1;
    private static final int USER = 2;
    private static final int LOCKED = 3;
    private static final int WEAK = 4;
    private static final int MASK = 5;

    private static final int MANNERS = 5;
    private static final int HIGHEST = 0;
    private static final int LOWEST = 1;
    private static final int TOTAL = 2;
    private static final int GREATEST = 3;
    private static final int KEYED = 4;

    /** Forms of an entry; a resolved key is a number, a list or a fault. */
    private static final int NONE = -1;
    private static final int NUMBER = 0;
    private static final int LIST = 1;
    private static final int REFERENCE = 2;
    private static final int FAULT = 2;
    private static final int SUM = 3;
    private static final int GAP = 4;

    private static final int WHOLE = 0;
    private static final int MISSING = 1;
    private static final int CYCLE = 2;
    private static final int WRONG = 3;
    private static final int BIG = 4;
    private static final int REFERS = 5;
    private static final int LONG = 6;

    private static final int NOBODY = -1;
    private static final int OTHER = -2;
    private static final int STATE = -3;
    private static final int BELOW = -4;
    private static final int ROOM = -6;
    private static final int NOTHING = -9;
    private static final long REFUSED_LONG = 4000000000000000000L;

    private final Scene now = new Scene();
    private final Scene kept = new Scene();
    private final Scene trial = new Scene();
    private final Resolver resolver = new Resolver();
    private final Told told = new Told();
    private final Row row = new Row();
    private final Draws draws = new Draws();
    private final Outcome[] present = new Outcome[KEYS];
    private final int[] refusals = new int[7];
    private boolean hasImage;

    public SettingsInLayers() {
        for (int key = 0; key < KEYS; key++) {
            present[key] = new Outcome();
        }
    }

    // ---- telling ----

    public int letter(int c) {
        if (c < 0) {
            return refuse(BELOW);
        }
        if (c > 255 || told.length >= MOST_LETTERS) {
            return refuse(ROOM);
        }
        return told.append(c);
    }

    public int settings() {
        int answer = told.isWellFormed() ? applyTold() : -1000 - told.at;
        told.length = 0;
        return answer;
    }

    public int turns(int layer) {
        if (noLayer(layer)) {
            return refuse(NOBODY);
        }
        now.toggle(layer);
        return now.isOn(layer) ? 1 : 0;
    }

    public int kind(int layer, int kind, int figure) {
        if (noLayer(layer)) {
            return refuse(NOBODY);
        }
        if (kind < 0 || kind >= KINDS) {
            return refuse(OTHER);
        }
        int refusal = outside(figure, MOST_FIGURE);
        if (refusal != 0) {
            return refuse(refusal);
        }
        int old = 10 * now.kinds[layer] + now.figures[layer];
        now.putKind(layer, kind, figure);
        return old;
    }

    public int manner(int key, int manner) {
        if (noKey(key)) {
            return refuse(NOBODY);
        }
        if (manner < 0 || manner >= MANNERS) {
            return refuse(OTHER);
        }
        int old = now.manners[key];
        now.manners[key] = manner;
        return old;
    }

    public int sets(int layer, int key, int n) {
        int refusal = noLayer(layer) || noKey(key) ? NOBODY : outside(n, MOST_NUMBER);
        if (refusal != 0) {
            return refuse(refusal);
        }
        return replace(layer, key, NUMBER, n, NOTHING);
    }

    public int adds(int layer, int key, int item, int n) {
        if (noLayer(layer) || noKey(key)) {
            return refuse(NOBODY);
        }
        int slot = slotOf(layer, key);
        int form = now.forms[slot];
        if (form != NONE && (form != LIST || now.hasItem(slot, item))) {
            return refuse(STATE);
        }
        if (item < 0 || n < 0) {
            return refuse(BELOW);
        }
        boolean full = form == LIST && now.numbers[slot] >= MOST_ITEMS;
        if (item > MOST_ITEM_KEY || n > MOST_NUMBER || full) {
            return refuse(ROOM);
        }
        if (form == NONE) {
            now.put(slot, LIST, 0, NOTHING);
        }
        return now.addItem(slot, item, n);
    }

    public int refers(int layer, int key, int other, int n) {
        if (noLayer(layer) || noKey(key) || noKey(other)) {
            return refuse(NOBODY);
        }
        if (n < -1) {
            return refuse(BELOW);
        }
        if (n > MOST_NUMBER) {
            return refuse(ROOM);
        }
        if (n < 0) {
            return replace(layer, key, REFERENCE, 0, other);
        }
        return replace(layer, key, SUM, n, other);
    }

    public int gap(int layer, int key) {
        if (noLayer(layer) || noKey(key)) {
            return refuse(NOBODY);
        }
        return replace(layer, key, GAP, 0, NOTHING);
    }

    public int drops(int layer, int key) {
        if (noEntry(layer, key)) {
            return refuse(NOBODY);
        }
        now.erase(slotOf(layer, key));
        return Integer.bitCount(now.keyBits(layer));
    }

    // ---- looking ----

    public int layer(int layer, int what) {
        if (noLayer(layer)) {
            return refuse(NOBODY);
        }
        switch (what) {
            case 0:
                return now.isOn(layer) ? 1 : 0;
            case 1:
                return now.kinds[layer];
            case 2:
                return now.figures[layer];
            case 3:
                return now.rank(layer) + 100;
            case 4:
                return now.keyBits(layer);
            case 5:
                return now.howManyBehind(layer);
            default:
                return refuse(OTHER);
        }
    }

    public int entry(int layer, int key, int what) {
        if (noEntry(layer, key)) {
            return refuse(NOBODY);
        }
        int slot = slotOf(layer, key);
        switch (what) {
            case 0:
                return now.forms[slot];
            case 1:
                return now.numbers[slot];
            case 2:
                return now.others[slot];
            default:
                return refuse(OTHER);
        }
    }

    public int value(int key, int what) {
        if (noKey(key)) {
            return refuse(NOBODY);
        }
        if (what < 0 || what > 3) {
            return refuse(OTHER);
        }
        Outcome outcome = resolver.ask(now, key);
        switch (what) {
            case 0:
                return outcome.form;
            case 1:
                return outcome.form == FAULT ? outcome.faultCodes[0] : outcome.number;
            case 2:
                return outcome.offers;
            default:
                return outcome.offerBits;
        }
    }

    public int item(int key, int i, int what) {
        if (noKey(key)) {
            return refuse(NOBODY);
        }
        Outcome outcome = resolver.ask(now, key);
        if (outcome.form != LIST || i < 0 || i >= outcome.number) {
            return refuse(NOBODY);
        }
        switch (what) {
            case 0:
                return outcome.itemKeys[i];
            case 1:
                return outcome.itemNumbers[i];
            case 2:
                return outcome.itemSources[i];
            default:
                return refuse(OTHER);
        }
    }

    public int fault(int key, int k, int what) {
        if (noKey(key)) {
            return refuse(NOBODY);
        }
        Outcome outcome = resolver.ask(now, key);
        if (outcome.form != FAULT || k < 0 || k >= outcome.faults) {
            return refuse(NOBODY);
        }
        switch (what) {
            case 0:
                return outcome.faultCodes[k];
            case 1:
                return outcome.faultKeys[k];
            default:
                return refuse(OTHER);
        }
    }

    public int sources(int key, int what) {
        if (noKey(key)) {
            return refuse(NOBODY);
        }
        Outcome outcome = resolver.ask(now, key);
        if (outcome.form == FAULT) {
            return refuse(STATE);
        }
        switch (what) {
            case 0:
                return outcome.sourceBits;
            case 1:
                return outcome.deepBits;
            default:
                return refuse(OTHER);
        }
    }

    public int uses(int key, int what) {
        if (noKey(key)) {
            return refuse(NOBODY);
        }
        switch (what) {
            case 0:
                return resolver.ask(now, key).usesBits;
            case 1:
                return usedBy(key);
            default:
                return refuse(OTHER);
        }
    }

    public int all(int what) {
        if (what < 0 || what > 2) {
            return refuse(OTHER);
        }
        int bits = 0;
        for (int key = 0; key < KEYS; key++) {
            if (isAmong(resolver.ask(now, key), key, what)) {
                bits |= 1 << key;
            }
        }
        return bits;
    }

    // ---- what would be ----

    public int hidden(int key) {
        if (noKey(key)) {
            return refuse(NOBODY);
        }
        int bits = 0;
        present[key].keep(resolver.ask(now, key));
        for (int layer = 0; layer < LAYERS; layer++) {
            int slot = slotOf(layer, key);
            if (now.forms[slot] != NONE) {
                trial.become(now);
                trial.erase(slot);
                if (present[key].isLike(resolver.ask(trial, key))) {
                    bits |= 1 << layer;
                }
            }
        }
        return bits;
    }

    public int without(int layer, int key) {
        if (noLayer(layer) || noKey(key)) {
            return refuse(NOBODY);
        }
        trial.become(now);
        trial.onBits &= ~(1 << layer);
        return resolver.ask(trial, key).numberOrNothing();
    }

    public int turn(int key, int v) {
        int refusal = noKey(key) ? NOBODY : outside(v, MOST_TOTAL);
        if (refusal != 0) {
            return refuse(refusal);
        }
        if (resolver.ask(now, key).numberOrNothing() == v) {
            return NOTHING;
        }
        trial.become(now);
        for (int layer = 0; layer < LAYERS; layer++) {
            trial.onBits = now.onBits ^ (1 << layer);
            if (resolver.ask(trial, key).numberOrNothing() == v) {
                return layer;
            }
        }
        return NOTHING;
    }

    public int set(int layer, int key, int other, int v) {
        boolean nobody = noLayer(layer) || noKey(key) || noKey(other);
        int refusal = nobody ? NOBODY : outside(v, MOST_TOTAL);
        if (refusal != 0) {
            return refuse(refusal);
        }
        trial.become(now);
        for (int n = 0; n <= MOST_NUMBER; n++) {
            trial.putOn(layer, key, n);
            if (resolver.ask(trial, other).numberOrNothing() == v) {
                return n;
            }
        }
        return NOTHING;
    }

    public int byManner(int key, int v) {
        int refusal = noKey(key) ? NOBODY : outside(v, MOST_TOTAL);
        if (refusal != 0) {
            return refuse(refusal);
        }
        int bits = 0;
        trial.become(now);
        for (int manner = 0; manner < MANNERS; manner++) {
            trial.manners[key] = manner;
            if (resolver.ask(trial, key).numberOrNothing() == v) {
                bits |= 1 << manner;
            }
        }
        return bits;
    }

    public int fewest() {
        keepPresent();
        trial.become(now);
        for (int size = 0; size <= LAYERS; size++) {
            for (int on = 0; on < LAYER_SETS; on++) {
                if (Integer.bitCount(on) == size && isPresentBy(on)) {
                    return on;
                }
            }
        }
        return NOTHING;
    }

    public int since() {
        if (!hasImage) {
            return refuse(STATE);
        }
        keepPresent();
        int bits = 0;
        for (int key = 0; key < KEYS; key++) {
            if (!present[key].isLike(resolver.ask(kept, key))) {
                bits |= 1 << key;
            }
        }
        return bits;
    }

    public long missing(int key, int v, int t, int part) {
        if (noKey(key)) {
            return refuseLong(NOBODY);
        }
        if (v < 0 || t < 2) {
            return refuseLong(BELOW);
        }
        if (v > MOST_TOTAL || t > MOST_ODDS) {
            return refuseLong(ROOM);
        }
        if (part < 0 || part > 1) {
            return refuseLong(OTHER);
        }
        long above = 0;
        trial.become(now);
        for (int on = 0; on < LAYER_SETS; on++) {
            trial.onBits = on;
            if ((on & ~now.onBits) == 0 && resolver.ask(trial, key).numberOrNothing() == v) {
                above += power(t - 1, Integer.bitCount(on));
            }
        }
        return leastTerms(above, power(t, Integer.bitCount(now.onBits)), part);
    }

    public long mean(int part) {
        if (part < 0 || part > 1) {
            return refuseLong(OTHER);
        }
        long total = 0;
        long howMany = 0;
        for (int key = 0; key < KEYS; key++) {
            int number = resolver.ask(now, key).numberOrNothing();
            if (number != NOTHING) {
                total += number;
                howMany++;
            }
        }
        return leastTerms(total, howMany, part);
    }

    public int whatIs(int layer, int what) {
        if (noLayer(layer)) {
            return refuse(NOBODY);
        }
        if (what < 0 || what > 1) {
            return refuse(OTHER);
        }
        int bits = 0;
        int howMany = what == 0 ? KINDS : MOST_FIGURE + 1;
        trial.become(now);
        for (int i = 0; i < howMany; i++) {
            int kind = what == 0 ? i : now.kinds[layer];
            int figure = what == 0 ? now.figures[layer] : i;
            trial.putKind(layer, kind, figure);
            if (firstNotSo(trial) == NOTHING) {
                bits |= 1 << i;
            }
        }
        return bits;
    }

    // ---- the row, the lots, the image ----

    public int row(int v) {
        if (v < 0) {
            return refuse(BELOW);
        }
        if (v > Row.HAS_NONE || row.size >= KEYS) {
            return refuse(ROOM);
        }
        return row.append(v);
    }

    public int judge() {
        int answer = firstNotSo(now);
        row.size = 0;
        return answer;
    }

    public int clear() {
        int size = row.size;
        row.size = 0;
        return size;
    }

    public int lots(int n, int z, int what) {
        if (n < 1) {
            return refuse(BELOW);
        }
        if (n > MOST_LOTS) {
            return refuse(ROOM);
        }
        if (what < 0 || what > 1) {
            return refuse(OTHER);
        }
        int together = 0;
        draws.z = z;
        for (int lot = 0; lot < n; lot++) {
            drawTrial();
            together += what == 0 ? numbersTogether(trial) : Integer.bitCount(faultBits(trial));
        }
        return together;
    }

    public int image() {
        kept.become(now);
        hasImage = true;
        return now.entries();
    }

    public int on() {
        if (!hasImage) {
            return refuse(STATE);
        }
        now.become(kept);
        return now.entries();
    }

    public int count(int what) {
        switch (what) {
            case 0:
                return now.entries();
            case 1:
                return now.onBits;
            case 2:
                return now.keyBitsOfAll();
            case 3:
                return now.items();
            case 4:
                return faultBits(now);
            case 5:
                return row.size;
            case 6:
                return told.length;
            default:
                return what >= 11 && what <= 16 ? refusals[what - 10] : NOTHING;
        }
    }

    // ---- refusing ----

    private static boolean noLayer(int layer) {
        return layer < 0 || layer >= LAYERS;
    }

    private static boolean noKey(int key) {
        return key < 0 || key >= KEYS;
    }

    private boolean noEntry(int layer, int key) {
        return noLayer(layer) || noKey(key) || now.forms[slotOf(layer, key)] == NONE;
    }

    /** How a number from 0 to the most is to be refused; 0 if it isn't. */
    private static int outside(int n, int most) {
        if (n < 0) {
            return BELOW;
        }
        return n > most ? ROOM : 0;
    }

    private int refuse(int code) {
        refusals[-code]++;
        return code;
    }

    private long refuseLong(int code) {
        return REFUSED_LONG - refuse(code);
    }

    // ---- parts of the calls ----

    private static int slotOf(int layer, int key) {
        return layer * KEYS + key;
    }

    private int replace(int layer, int key, int form, int number, int other) {
        int slot = slotOf(layer, key);
        int had = now.forms[slot] == NONE ? 0 : 1;
        now.put(slot, form, number, other);
        return had;
    }

    /** Works on a trial, since with a fault in the text nothing of it comes. */
    private int applyTold() {
        trial.become(now);
        told.at = 0;
        int statements = 0;
        while (statements < MOST_LETTERS && told.at < told.length) {
            int start = told.at;
            if (!told.readStatement() || !told.statement.applyTo(trial)) {
                return -2000 - start;
            }
            statements++;
        }
        now.become(trial);
        return statements;
    }

    private int usedBy(int key) {
        int bits = 0;
        for (int user = 0; user < KEYS; user++) {
            if ((resolver.ask(now, user).usesBits >> key & 1) != 0) {
                bits |= 1 << user;
            }
        }
        return bits;
    }

    private static boolean isAmong(Outcome outcome, int key, int what) {
        switch (what) {
            case 0:
                return outcome.isInCycle(key);
            case 1:
                return outcome.form != FAULT;
            default:
                return outcome.form == NUMBER;
        }
    }

    private int numbersTogether(Scene scene) {
        int together = 0;
        for (int key = 0; key < KEYS; key++) {
            together += Math.max(resolver.ask(scene, key).numberOrNothing(), 0);
        }
        return together;
    }

    private int faultBits(Scene scene) {
        int bits = 0;
        for (int key = 0; key < KEYS; key++) {
            if (resolver.ask(scene, key).form == FAULT) {
                bits |= 1 << key;
            }
        }
        return bits;
    }

    private void keepPresent() {
        for (int key = 0; key < KEYS; key++) {
            present[key].keep(resolver.ask(now, key));
        }
    }

    private boolean isPresentBy(int on) {
        trial.onBits = on;
        for (int key = 0; key < KEYS; key++) {
            if (!present[key].isLike(resolver.ask(trial, key))) {
                return false;
            }
        }
        return true;
    }

    private int firstNotSo(Scene scene) {
        for (int key = 0; key < row.size; key++) {
            if (row.isOtherThan(key, resolver.ask(scene, key).numberOrNothing())) {
                return key;
            }
        }
        return NOTHING;
    }

    private void drawTrial() {
        trial.become(now);
        for (int i = 0; i < 4; i++) {
            int layer = draws.below(LAYERS);
            int key = draws.below(KEYS);
            int number = draws.below(100);
            trial.putOn(layer, key, number);
        }
    }

    private static long power(long base, int exponent) {
        long product = 1;
        for (int i = 0; i < exponent; i++) {
            product *= base;
        }
        return product;
    }

    /** Nothing by nothing is 0 by 1, too. */
    private static long leastTerms(long above, long below, int part) {
        long divisor = commonDivisor(above, below);
        if (divisor == 0) {
            return part;
        }
        return (part == 0 ? above : below) / divisor;
    }

    private static long commonDivisor(long a, long b) {
        long greater = a;
        long rest = b;
        for (int step = 0; step < 100 && rest != 0; step++) {
            long next = greater % rest;
            greater = rest;
            rest = next;
        }
        return greater;
    }

    /** All that an image keeps: layers, their entries, the manners of the keys. */
    private static final class Scene {
        int onBits;
        final int[] kinds = new int[LAYERS];
        final int[] figures = new int[LAYERS];
        final int[] manners = new int[KEYS];
        /** Layers, the least rank first. */
        final int[] order = new int[LAYERS];
        /** Of the entry in each slot, which is 8 times the layer and the key. */
        final int[] forms = new int[SLOTS];
        /** Of a list, how many items it has. */
        final int[] numbers = new int[SLOTS];
        final int[] others = new int[SLOTS];
        final int[] itemKeys = new int[SLOTS * MOST_ITEMS];
        final int[] itemNumbers = new int[SLOTS * MOST_ITEMS];

        Scene() {
            for (int slot = 0; slot < SLOTS; slot++) {
                erase(slot);
            }
            arrange();
        }

        void become(Scene that) {
            onBits = that.onBits;
            System.arraycopy(that.kinds, 0, kinds, 0, LAYERS);
            System.arraycopy(that.figures, 0, figures, 0, LAYERS);
            System.arraycopy(that.manners, 0, manners, 0, KEYS);
            System.arraycopy(that.order, 0, order, 0, LAYERS);
            System.arraycopy(that.forms, 0, forms, 0, SLOTS);
            System.arraycopy(that.numbers, 0, numbers, 0, SLOTS);
            System.arraycopy(that.others, 0, others, 0, SLOTS);
            System.arraycopy(that.itemKeys, 0, itemKeys, 0, SLOTS * MOST_ITEMS);
            System.arraycopy(that.itemNumbers, 0, itemNumbers, 0, SLOTS * MOST_ITEMS);
        }

        boolean isOn(int layer) {
            return (onBits >> layer & 1) != 0;
        }

        void toggle(int layer) {
            onBits ^= 1 << layer;
        }

        void putKind(int layer, int newKind, int newFigure) {
            kinds[layer] = newKind;
            figures[layer] = newFigure;
            arrange();
        }

        int rank(int layer) {
            switch (kinds[layer]) {
                case FILE:
                    return layer + 10;
                case USER:
                case MASK:
                    return layer + 10 + figures[layer];
                case LOCKED:
                    return layer + 110;
                case WEAK:
                    return layer - 20;
                default:
                    return layer;
            }
        }

        /** Layers come in by their numbers and pass only greater ranks, so alike ones stay so. */
        private void arrange() {
            for (int layer = 0; layer < LAYERS; layer++) {
                int place = layer;
                while (place > 0 && rank(order[place - 1]) > rank(layer)) {
                    order[place] = order[place - 1];
                    place--;
                }
                order[place] = layer;
            }
        }

        int howManyBehind(int layer) {
            int behind = 0;
            for (int place = LAYERS - 1; place > 0 && order[place] != layer; place--) {
                behind++;
            }
            return behind;
        }

        void put(int slot, int form, int number, int other) {
            forms[slot] = form;
            numbers[slot] = number;
            others[slot] = other;
        }

        void erase(int slot) {
            put(slot, NONE, 0, NOTHING);
        }

        void putOn(int layer, int key, int number) {
            onBits |= 1 << layer;
            put(slotOf(layer, key), NUMBER, number, NOTHING);
        }

        boolean hasItem(int slot, int itemKey) {
            for (int i = 0; i < numbers[slot]; i++) {
                if (itemKeys[slot * MOST_ITEMS + i] == itemKey) {
                    return true;
                }
            }
            return false;
        }

        int addItem(int slot, int itemKey, int number) {
            int place = slot * MOST_ITEMS + numbers[slot];
            itemKeys[place] = itemKey;
            itemNumbers[place] = number;
            numbers[slot]++;
            return numbers[slot];
        }

        int keyBits(int layer) {
            int bits = 0;
            for (int key = 0; key < KEYS; key++) {
                if (forms[slotOf(layer, key)] != NONE) {
                    bits |= 1 << key;
                }
            }
            return bits;
        }

        int keyBitsOfAll() {
            int bits = 0;
            for (int layer = 0; layer < LAYERS; layer++) {
                bits |= keyBits(layer);
            }
            return bits;
        }

        int entries() {
            int howMany = 0;
            for (int layer = 0; layer < LAYERS; layer++) {
                howMany += Integer.bitCount(keyBits(layer));
            }
            return howMany;
        }

        int items() {
            int howMany = 0;
            for (int slot = 0; slot < SLOTS; slot++) {
                if (forms[slot] == LIST) {
                    howMany += numbers[slot];
                }
            }
            return howMany;
        }
    }

    /** What a key, or one offer, comes to. */
    private static final class Outcome {
        int form;
        /** Of a list, how many items it has. */
        int number;
        final int[] itemKeys = new int[MOST_MERGED_ITEMS];
        final int[] itemNumbers = new int[MOST_MERGED_ITEMS];
        final int[] itemSources = new int[MOST_MERGED_ITEMS];
        /** How many faults: its own, what caused it, and so on. */
        int faults;
        final int[] faultCodes = new int[LEVELS];
        final int[] faultKeys = new int[LEVELS];
        int offers;
        int offerBits;
        /** The highest layer first, since offers end at a gap looked for from there. */
        final int[] offerLayers = new int[LAYERS];
        int sourceBits;
        int deepBits;
        int usesBits;

        void reset() {
            form = NUMBER;
            number = 0;
            faults = 0;
            offers = 0;
            offerBits = 0;
            sourceBits = 0;
            deepBits = 0;
            usesBits = 0;
        }

        void addOffer(int layer) {
            offerLayers[offers] = layer;
            offers++;
            offerBits |= 1 << layer;
        }

        /** The i-th offer in order. */
        int offerLayer(int i) {
            return offerLayers[offers - 1 - i];
        }

        int numberOrNothing() {
            return form == NUMBER ? number : NOTHING;
        }

        /** One offer instead of what was taken before. This and its like answer a fault or 0. */
        int takeAlone(int layer, Outcome made) {
            form = made.form;
            number = made.number;
            sourceBits = 1 << layer;
            deepBits = 1 << layer | made.deepBits;
            if (form == LIST) {
                System.arraycopy(made.itemKeys, 0, itemKeys, 0, MOST_MERGED_ITEMS);
                System.arraycopy(made.itemNumbers, 0, itemNumbers, 0, MOST_MERGED_ITEMS);
                Arrays.fill(itemSources, layer);
            }
            return WHOLE;
        }

        int takeGreater(int layer, Outcome made) {
            if (made.form != NUMBER) {
                return WRONG;
            }
            boolean isGreater = sourceBits == 0 || made.number > number;
            return isGreater ? takeAlone(layer, made) : WHOLE;
        }

        int takeToTotal(int layer, Outcome made) {
            if (made.form != NUMBER) {
                return WRONG;
            }
            takeSource(layer, made);
            return increase(made.number);
        }

        private void takeSource(int layer, Outcome made) {
            sourceBits |= 1 << layer;
            deepBits |= 1 << layer | made.deepBits;
        }

        int increase(int more) {
            if (form != NUMBER) {
                return WRONG;
            }
            number += more;
            return number > MOST_TOTAL ? BIG : WHOLE;
        }

        int takeItems(int layer, Outcome made) {
            if (made.form != LIST) {
                return WRONG;
            }
            form = LIST;
            takeSource(layer, made);
            for (int i = 0; i < made.number; i++) {
                if (!takeItem(made.itemKeys[i], made.itemNumbers[i], layer)) {
                    return BIG;
                }
            }
            return WHOLE;
        }

        /** False if there is no room for it. */
        private boolean takeItem(int itemKey, int itemNumber, int layer) {
            int place = 0;
            while (place < number && itemKeys[place] != itemKey) {
                place++;
            }
            if (place >= MOST_MERGED_ITEMS) {
                return false;
            }
            if (place == number) {
                number++;
            }
            itemKeys[place] = itemKey;
            itemNumbers[place] = itemNumber;
            itemSources[place] = layer;
            return true;
        }

        boolean isInCycle(int key) {
            int last = faults - 1;
            return form == FAULT && last >= 0
                && faultCodes[last] == CYCLE && faultKeys[last] == key;
        }

        /** Keeps only what isLike looks at. */
        void keep(Outcome that) {
            form = that.form;
            number = that.number;
            faults = that.faults;
            System.arraycopy(that.itemKeys, 0, itemKeys, 0, MOST_MERGED_ITEMS);
            System.arraycopy(that.itemNumbers, 0, itemNumbers, 0, MOST_MERGED_ITEMS);
            System.arraycopy(that.faultCodes, 0, faultCodes, 0, LEVELS);
        }

        boolean isLike(Outcome that) {
            if (form != that.form) {
                return false;
            }
            switch (form) {
                case NUMBER:
                    return number == that.number;
                case LIST:
                    return number == that.number
                        && isAlike(itemKeys, that.itemKeys, number)
                        && isAlike(itemNumbers, that.itemNumbers, number);
                default:
                    return faults == that.faults
                        && isAlike(faultCodes, that.faultCodes, faults);
            }
        }

        private static boolean isAlike(int[] some, int[] others, int howMany) {
            for (int i = 0; i < howMany; i++) {
                if (some[i] != others[i]) {
                    return false;
                }
            }
            return true;
        }
    }

    /**
     * Resolves keys. The first fault ends all, so there is one row of causes: the keys that are
     * open, each with REFERS, and the fault that came.
     */
    private static final class Resolver {
        private Scene scene;
        private int resolved;
        private int openBits;
        private int seenBits;
        /** The keys that are being resolved, by depth. */
        private final int[] path = new int[LEVELS];
        private final Outcome[] levels = new Outcome[LEVELS];

        Resolver() {
            for (int depth = 0; depth < LEVELS; depth++) {
                levels[depth] = new Outcome();
            }
        }

        /** The answer is good until the next question. */
        Outcome ask(Scene asked, int key) {
            scene = asked;
            resolved = 0;
            openBits = 0;
            seenBits = 0;
            resolve(key, 0);
            levels[0].usesBits = seenBits & ~(1 << key);
            return levels[0];
        }

        /** Into levels[depth]; false with a fault. */
        private boolean resolve(int key, int depth) {
            if (depth >= LEVELS) {
                return false;
            }
            int bit = 1 << key;
            path[depth] = key;
            levels[depth].reset();
            resolved++;
            seenBits |= bit;
            if (resolved > MOST_RESOLVED) {
                return fail(LONG, depth);
            }
            if ((openBits & bit) != 0) {
                return fail(CYCLE, depth);
            }
            gatherOffers(key, levels[depth]);
            if (levels[depth].offers == 0) {
                return fail(MISSING, depth);
            }
            openBits |= bit;
            boolean whole = merge(key, depth);
            openBits &= ~bit;
            return whole;
        }

        private boolean fail(int code, int depth) {
            Outcome first = levels[0];
            for (int i = 0; i < depth; i++) {
                first.faultCodes[i] = REFERS;
                first.faultKeys[i] = path[i];
            }
            first.faultCodes[depth] = code;
            first.faultKeys[depth] = path[depth];
            first.faults = depth + 1;
            first.form = FAULT;
            return false;
        }

        private void gatherOffers(int key, Outcome outcome) {
            for (int place = LAYERS - 1; place >= 0; place--) {
                int layer = scene.order[place];
                int form = scene.forms[slotOf(layer, key)];
                if (form != NONE && scene.isOn(layer) && counts(layer, key, outcome.offers)) {
                    if (form == GAP) {
                        return;
                    }
                    outcome.addOffer(layer);
                }
            }
        }

        /** Offers so far are from greater ranks: just those that a weak layer gives way to. */
        private boolean counts(int layer, int key, int offersAbove) {
            switch (scene.kinds[layer]) {
                case WEAK:
                    return offersAbove == 0;
                case MASK:
                    return key <= scene.figures[layer];
                default:
                    return true;
            }
        }

        private boolean merge(int key, int depth) {
            int manner = scene.manners[key];
            Outcome whole = levels[depth];
            int first = manner == HIGHEST ? whole.offers - 1 : 0;
            int behind = manner == LOWEST ? 1 : whole.offers;
            for (int i = first; i < behind; i++) {
                int layer = whole.offerLayer(i);
                if (!make(layer, key, depth)) {
                    return false;
                }
                int code = take(manner, layer, depth);
                if (code != WHOLE) {
                    return fail(code, depth);
                }
            }
            return true;
        }

        private int take(int manner, int layer, int depth) {
            Outcome whole = levels[depth];
            Outcome made = levels[depth + 1];
            switch (manner) {
                case TOTAL:
                    return whole.takeToTotal(layer, made);
                case GREATEST:
                    return whole.takeGreater(layer, made);
                case KEYED:
                    return whole.takeItems(layer, made);
                default:
                    return whole.takeAlone(layer, made);
            }
        }

        /** Makes the value of an offer, into levels[depth + 1]; false with a fault. */
        private boolean make(int layer, int key, int depth) {
            int slot = slotOf(layer, key);
            int form = scene.forms[slot];
            int next = depth + 1;
            if (next >= LEVELS) {
                return false;
            }
            if (form == REFERENCE) {
                return resolve(scene.others[slot], next);
            }
            if (form == SUM) {
                if (!resolve(scene.others[slot], next)) {
                    return false;
                }
                int code = levels[next].increase(scene.numbers[slot]);
                return code == WHOLE || fail(code, depth);
            }
            copyEntry(slot, levels[next]);
            return true;
        }

        private void copyEntry(int slot, Outcome made) {
            made.reset();
            made.form = scene.forms[slot];
            made.number = scene.numbers[slot];
            if (made.form == LIST) {
                int place = slot * MOST_ITEMS;
                System.arraycopy(scene.itemKeys, place, made.itemKeys, 0, made.number);
                System.arraycopy(scene.itemNumbers, place, made.itemNumbers, 0, made.number);
            }
        }
    }

    /** The letters that came. A fault in reading leaves its place in "at". */
    private static final class Told {
        private final int[] letters = new int[MOST_LETTERS];
        int length;
        int at;
        final Statement statement = new Statement();

        int append(int c) {
            letters[length] = c;
            length++;
            return length;
        }

        boolean isWellFormed() {
            at = 0;
            for (int statements = 0; statements < MOST_LETTERS; statements++) {
                if (statements > 0 && at >= length) {
                    return true;
                }
                if (!readStatement()) {
                    return false;
                }
            }
            return true;
        }

        boolean readStatement() {
            statement.verb = letterHere();
            switch (statement.verb) {
                case 'l':
                    at++;
                    return readLayer() && readKind() && readFigure() && readSign(';');
                case 'o':
                    at++;
                    return readLayer() && readSign(';');
                case 'e':
                    at++;
                    return readLayer() && readKey() && readEntry() && readSign(';');
                case 'd':
                    at++;
                    return readLayer() && readKey() && readSign(';');
                case 'm':
                    at++;
                    return readKey() && readManner() && readSign(';');
                default:
                    return false;
            }
        }

        private boolean readEntry() {
            statement.beginEntry();
            switch (letterHere()) {
                case '=':
                    at++;
                    statement.form = NUMBER;
                    return readNumber();
                case '[':
                    at++;
                    statement.form = LIST;
                    return readItems() && readSign(']');
                case '@':
                    at++;
                    statement.form = REFERENCE;
                    return readOther();
                case '+':
                    at++;
                    statement.form = SUM;
                    return readOther() && readNumber();
                case '!':
                    at++;
                    statement.form = GAP;
                    return true;
                default:
                    return false;
            }
        }

        private boolean readItems() {
            for (int i = 0; i < MOST_LETTERS; i++) {
                int itemKey = readDigit();
                if (itemKey < 0) {
                    return true;
                }
                int number = readPair();
                if (number < 0) {
                    return false;
                }
                statement.addItem(itemKey, number);
            }
            return true;
        }

        private boolean readLayer() {
            statement.layer = readDigit();
            return statement.layer >= 0;
        }

        private boolean readKind() {
            statement.kind = readDigit();
            return statement.kind >= 0;
        }

        private boolean readFigure() {
            statement.figure = readDigit();
            return statement.figure >= 0;
        }

        private boolean readManner() {
            statement.manner = readDigit();
            return statement.manner >= 0;
        }

        private boolean readKey() {
            statement.key = readKeyLetter();
            return statement.key >= 0;
        }

        private boolean readOther() {
            statement.other = readKeyLetter();
            return statement.other >= 0;
        }

        private boolean readNumber() {
            statement.number = readPair();
            return statement.number >= 0;
        }

        private boolean readSign(char sign) {
            if (letterHere() != sign) {
                return false;
            }
            at++;
            return true;
        }

        private int readPair() {
            int tens = readDigit();
            if (tens < 0) {
                return -1;
            }
            int ones = readDigit();
            return ones < 0 ? -1 : 10 * tens + ones;
        }

        private int readDigit() {
            int digit = letterHere() - '0';
            if (digit < 0 || digit > 9) {
                return -1;
            }
            at++;
            return digit;
        }

        private int readKeyLetter() {
            int named = letterHere() - 'a';
            if (noKey(named)) {
                return -1;
            }
            at++;
            return named;
        }

        /** -1, which is no letter, at the end. */
        private int letterHere() {
            return at >= 0 && at < length && at < MOST_LETTERS ? letters[at] : -1;
        }
    }

    /** One statement of the settings, well formed but not yet looked at otherwise. */
    private static final class Statement {
        int verb;
        int layer;
        int key;
        int kind;
        int figure;
        int manner;
        int form;
        int number;
        int other;
        private int items;
        private int itemBits;
        private boolean itemTwice;
        private final int[] itemKeys = new int[MOST_ITEMS];
        private final int[] itemNumbers = new int[MOST_ITEMS];

        void beginEntry() {
            number = 0;
            other = NOTHING;
            items = 0;
            itemBits = 0;
            itemTwice = false;
        }

        void addItem(int itemKey, int itemNumber) {
            if (items < MOST_ITEMS) {
                itemKeys[items] = itemKey;
                itemNumbers[items] = itemNumber;
            }
            items++;
            itemTwice |= (itemBits >> itemKey & 1) != 0;
            itemBits |= 1 << itemKey;
        }

        /** False, and nothing is changed, if it is not as it must be. */
        boolean applyTo(Scene scene) {
            switch (verb) {
                case 'l':
                    return applyKind(scene);
                case 'o':
                    return applyToggle(scene);
                case 'e':
                    return applyEntry(scene);
                case 'd':
                    return applyDrop(scene);
                default:
                    return applyManner(scene);
            }
        }

        private boolean applyKind(Scene scene) {
            if (noLayer(layer) || kind >= KINDS) {
                return false;
            }
            scene.putKind(layer, kind, figure);
            return true;
        }

        private boolean applyToggle(Scene scene) {
            if (noLayer(layer)) {
                return false;
            }
            scene.toggle(layer);
            return true;
        }

        private boolean applyEntry(Scene scene) {
            if (noLayer(layer) || items > MOST_ITEMS || itemTwice) {
                return false;
            }
            int slot = slotOf(layer, key);
            scene.put(slot, form, number, other);
            for (int i = 0; i < items; i++) {
                scene.addItem(slot, itemKeys[i], itemNumbers[i]);
            }
            return true;
        }

        private boolean applyDrop(Scene scene) {
            if (noLayer(layer) || scene.forms[slotOf(layer, key)] == NONE) {
                return false;
            }
            scene.erase(slotOf(layer, key));
            return true;
        }

        private boolean applyManner(Scene scene) {
            if (manner >= MANNERS) {
                return false;
            }
            scene.manners[key] = manner;
            return true;
        }
    }

    /** Numbers told of the keys a, b, and so on. */
    private static final class Row {
        static final int HAS_NONE = 100;
        private final int[] numbers = new int[KEYS];
        int size;

        int append(int number) {
            numbers[size] = number;
            size++;
            return size;
        }

        /** A key with the number 100 has one, so 100 is not so of it. */
        boolean isOtherThan(int key, int number) {
            if (numbers[key] == HAS_NONE) {
                return number != NOTHING;
            }
            return numbers[key] != number;
        }
    }

    private static final class Draws {
        private static final int WITHOUT_SIGN = 0x7fffffff;
        int z;

        int below(int m) {
            z = z * 1664525 + 1013904223;
            return m <= 0 ? 0 : (z & WITHOUT_SIGN) / 256 % m;
        }
    }
}
