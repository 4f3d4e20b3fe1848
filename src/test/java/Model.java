import java.math.BigInteger;
import java.util.ArrayList;
import java.util.Arrays;
import java.util.Comparator;
import java.util.LinkedHashMap;
import java.util.List;
import java.util.Map;
import java.util.Set;
import java.util.TreeMap;
import java.util.TreeSet;
import java.util.function.IntPredicate;
import java.util.regex.Matcher;
import java.util.regex.Pattern;

/**
 * The document once more, written with the Java library and for reading, not for speed: what the
 * class answers is held against it.
 */
public final class Model implements Answers {
    enum Kind { DEFAULTS, FILE, USER, LOCKED, WEAK, MASK }

    enum Form { NUMBER, LIST, REFERENCE, SUM, GAP }

    static final class Refused extends RuntimeException {
        private static final long serialVersionUID = 1L;
        final int code;

        Refused(int code) {
            super(null, null, false, false);
            this.code = code;
        }
    }

    /** A fault with its cause, thrown to where the key that refers catches it. */
    static final class Fault extends RuntimeException {
        private static final long serialVersionUID = 1L;
        final int code;
        final int key;
        final transient Fault because;

        Fault(int code, int key, Fault because) {
            super(null, null, false, false);
            this.code = code;
            this.key = key;
            this.because = because;
        }

        List<Integer> codes() {
            List<Integer> codes = new ArrayList<>();
            for (Fault f = this; f != null; f = f.because) {
                codes.add(f.code);
            }
            return codes;
        }

        Fault nth(int k) {
            Fault f = this;
            for (int i = 0; i < k && f != null; i++) {
                f = f.because;
            }
            return f;
        }

        Fault last() {
            return because == null ? this : because.last();
        }
    }

    static final class Entry {
        final Form form;
        final int number;
        final int other;
        final LinkedHashMap<Integer, Integer> items = new LinkedHashMap<>();

        Entry(Form form, int number, int other) {
            this.form = form;
            this.number = number;
            this.other = other;
        }

        Entry copy() {
            Entry copy = new Entry(form, number, other);
            copy.items.putAll(items);
            return copy;
        }
    }

    static final class Layer {
        final int index;
        boolean isOn;
        Kind kind = Kind.DEFAULTS;
        int figure;
        final Map<Integer, Entry> entries = new TreeMap<>();

        Layer(int index) {
            this.index = index;
        }

        int rank() {
            int file = index + 10;
            switch (kind) {
                case FILE: return file;
                case USER: return file + figure;
                case LOCKED: return file + 100;
                case WEAK: return index - 20;
                case MASK: return file + figure;
                default: return index;
            }
        }
    }

    /** A value that is made: a number, or a list with the layer that gave each number. */
    static final class Value {
        Integer number;
        LinkedHashMap<Integer, int[]> items;
        final Set<Integer> sources = new TreeSet<>();
        final Set<Integer> deep = new TreeSet<>();
    }

    static final class World {
        final List<Layer> layers = new ArrayList<>();
        final int[] manners = new int[8];

        World() {
            for (int i = 0; i < 6; i++) {
                layers.add(new Layer(i));
            }
        }

        World copy() {
            World copy = new World();
            for (Layer from : layers) {
                Layer to = copy.layers.get(from.index);
                to.isOn = from.isOn;
                to.kind = from.kind;
                to.figure = from.figure;
                from.entries.forEach((key, entry) -> to.entries.put(key, entry.copy()));
            }
            System.arraycopy(manners, 0, copy.manners, 0, 8);
            return copy;
        }

        List<Layer> inOrder() {
            List<Layer> order = new ArrayList<>(layers);
            order.sort(Comparator.comparingInt(Layer::rank).thenComparingInt(layer -> layer.index));
            return order;
        }

        boolean counts(Layer layer, int key) {
            if (layer.kind == Kind.MASK) {
                return key <= layer.figure;
            }
            if (layer.kind != Kind.WEAK) {
                return true;
            }
            for (Layer other : layers) {
                if (other.rank() > layer.rank() && other.isOn && counts(other, key)
                    && other.entries.containsKey(key)
                    && other.entries.get(key).form != Form.GAP) {
                    return false;
                }
            }
            return true;
        }

        List<Layer> offers(int key) {
            List<Layer> offers = new ArrayList<>();
            for (Layer layer : inOrder()) {
                if (layer.isOn && counts(layer, key) && layer.entries.containsKey(key)) {
                    if (layer.entries.get(key).form == Form.GAP) {
                        offers.clear();
                    } else {
                        offers.add(layer);
                    }
                }
            }
            return offers;
        }

        int entries() {
            return layers.stream().mapToInt(layer -> layer.entries.size()).sum();
        }

        Resolving resolving(int key) {
            return new Resolving(this, key);
        }

        int number(int key) {
            Value value = resolving(key).value;
            return value == null || value.number == null ? -9 : value.number;
        }
    }

    /** One key asked for, with all that was resolved for it. */
    static final class Resolving {
        final World world;
        final List<Integer> resolved = new ArrayList<>();
        final List<Integer> open = new ArrayList<>();
        final Value value;
        final Fault fault;

        Resolving(World world, int key) {
            this.world = world;
            Value made = null;
            Fault came = null;
            try {
                made = resolve(key);
            } catch (Fault f) {
                came = f;
            }
            value = made;
            fault = came;
        }

        Value resolve(int key) {
            resolved.add(key);
            if (resolved.size() == 61) {
                throw new Fault(6, key, null);
            }
            if (open.contains(key)) {
                throw new Fault(2, key, null);
            }
            List<Layer> offers = world.offers(key);
            if (offers.isEmpty()) {
                throw new Fault(1, key, null);
            }
            open.add(key);
            Value whole = merge(key, offers);
            open.remove(Integer.valueOf(key));
            return whole;
        }

        Value merge(int key, List<Layer> offers) {
            switch (world.manners[key]) {
                case 0: return alone(key, offers.get(offers.size() - 1));
                case 1: return alone(key, offers.get(0));
                case 2: return total(key, offers);
                case 3: return greatest(key, offers);
                default: return keyed(key, offers);
            }
        }

        Value alone(int key, Layer layer) {
            Value made = make(key, layer);
            Value whole = new Value();
            whole.number = made.number;
            if (made.items != null) {
                whole.items = new LinkedHashMap<>();
                made.items.forEach((i, was) -> whole.items.put(i, new int[] {was[0], layer.index}));
            }
            source(whole, layer, made);
            return whole;
        }

        void source(Value whole, Layer layer, Value made) {
            whole.sources.add(layer.index);
            whole.deep.add(layer.index);
            whole.deep.addAll(made.deep);
        }

        Value total(int key, List<Layer> offers) {
            Value whole = new Value();
            whole.number = 0;
            for (Layer layer : offers) {
                Value made = make(key, layer);
                if (made.number == null) {
                    throw new Fault(3, key, null);
                }
                whole.number += made.number;
                if (whole.number > 999) {
                    throw new Fault(4, key, null);
                }
                source(whole, layer, made);
            }
            return whole;
        }

        Value greatest(int key, List<Layer> offers) {
            Value whole = null;
            for (Layer layer : offers) {
                Value made = make(key, layer);
                if (made.number == null) {
                    throw new Fault(3, key, null);
                }
                if (whole == null || made.number > whole.number) {
                    whole = new Value();
                    whole.number = made.number;
                    source(whole, layer, made);
                }
            }
            return whole;
        }

        Value keyed(int key, List<Layer> offers) {
            Value whole = new Value();
            whole.items = new LinkedHashMap<>();
            for (Layer layer : offers) {
                Value made = make(key, layer);
                if (made.items == null) {
                    throw new Fault(3, key, null);
                }
                made.items.forEach((i, was) -> whole.items.put(i, new int[] {was[0], layer.index}));
                if (whole.items.size() > 10) {
                    throw new Fault(4, key, null);
                }
                source(whole, layer, made);
            }
            return whole;
        }

        Value make(int key, Layer layer) {
            Entry entry = layer.entries.get(key);
            Value made = new Value();
            switch (entry.form) {
                case NUMBER:
                    made.number = entry.number;
                    return made;
                case LIST:
                    made.items = new LinkedHashMap<>();
                    entry.items.forEach((i, n) -> made.items.put(i, new int[] {n, layer.index}));
                    return made;
                default:
            }
            Value other;
            try {
                other = resolve(entry.other);
            } catch (Fault f) {
                throw new Fault(5, key, f);
            }
            if (entry.form == Form.REFERENCE) {
                return other;
            }
            if (other.number == null) {
                throw new Fault(3, key, null);
            }
            made.number = other.number + entry.number;
            made.deep.addAll(other.deep);
            if (made.number > 999) {
                throw new Fault(4, key, null);
            }
            return made;
        }

        boolean isLike(Resolving that) {
            if (fault != null || that.fault != null) {
                return fault != null && that.fault != null
                    && fault.codes().equals(that.fault.codes());
            }
            if (value.number != null || that.value.number != null) {
                return value.number != null && value.number.equals(that.value.number);
            }
            return listed().equals(that.listed());
        }

        List<List<Integer>> listed() {
            List<List<Integer>> items = new ArrayList<>();
            value.items.forEach((i, was) -> items.add(Arrays.asList(i, was[0])));
            return items;
        }

        Set<Integer> uses(int key) {
            Set<Integer> uses = new TreeSet<>(resolved);
            uses.remove(key);
            return uses;
        }
    }

    private World now = new World();
    private World kept;
    private String letters = "";
    private final List<Integer> row = new ArrayList<>();
    private final int[] refusals = new int[7];

    /** What the class is to answer to a call. */
    @Override
    public long answer(String method, int... a) {
        boolean isLong = method.equals("missing") || method.equals("mean");
        try {
            return dispatch(method, a);
        } catch (Refused r) {
            refusals[-r.code]++;
            return isLong ? 4000000000000000000L - r.code : r.code;
        }
    }

    private long dispatch(String method, int... a) {
        switch (method) {
            case "letter": return letter(a[0]);
            case "settings": return settings();
            case "turns": return turns(a[0]);
            case "kind": return kind(a[0], a[1], a[2]);
            case "manner": return manner(a[0], a[1]);
            case "sets": return sets(a[0], a[1], a[2]);
            case "adds": return adds(a[0], a[1], a[2], a[3]);
            case "refers": return refers(a[0], a[1], a[2], a[3]);
            case "gap": return gap(a[0], a[1]);
            case "drops": return drops(a[0], a[1]);
            case "layer": return layer(a[0], a[1]);
            case "entry": return entry(a[0], a[1], a[2]);
            case "value": return value(a[0], a[1]);
            case "item": return item(a[0], a[1], a[2]);
            case "fault": return fault(a[0], a[1], a[2]);
            case "sources": return sources(a[0], a[1]);
            case "uses": return uses(a[0], a[1]);
            case "all": return all(a[0]);
            case "hidden": return hidden(a[0]);
            case "without": return without(a[0], a[1]);
            case "turn": return turn(a[0], a[1]);
            case "set": return set(a[0], a[1], a[2], a[3]);
            case "byManner": return byManner(a[0], a[1]);
            case "fewest": return fewest();
            case "since": return since();
            case "missing": return missing(a[0], a[1], a[2], a[3]);
            case "mean": return mean(a[0]);
            case "whatIs": return whatIs(a[0], a[1]);
            case "row": return row(a[0]);
            case "judge": return judge();
            case "clear": return clear();
            case "lots": return lots(a[0], a[1], a[2]);
            case "image": return image();
            case "on": return on();
            case "count": return count(a[0]);
            default: throw new IllegalStateException(method);
        }
    }

    private static void refuseIf(boolean is, int code) {
        if (is) {
            throw new Refused(code);
        }
    }

    private static void needLayer(int layer) {
        refuseIf(layer < 0 || layer > 5, -1);
    }

    private static void needKey(int key) {
        refuseIf(key < 0 || key > 7, -1);
    }

    private static void needWhat(int what, int most) {
        refuseIf(what < 0 || what > most, -2);
    }

    private static int bits(Iterable<Integer> numbers) {
        int bits = 0;
        for (int n : numbers) {
            bits |= 1 << n;
        }
        return bits;
    }

    private static int bitsOf(int howMany, IntPredicate is) {
        int bits = 0;
        for (int i = 0; i < howMany; i++) {
            bits |= is.test(i) ? 1 << i : 0;
        }
        return bits;
    }

    private long letter(int c) {
        refuseIf(c < 0, -4);
        refuseIf(c > 255 || letters.length() == 96, -6);
        letters += (char) c;
        return letters.length();
    }

    private static final String[] GRAMMAR = {
        "l###", "o#", "e#k=##", "e#k[i]", "e#k@k", "e#k+k##", "e#k!", "d#k", "mk#"};

    /** How far the text from "at" can be the beginning of a statement; -1 less its length if whole. */
    private static int follow(String text, int at) {
        int furthest = at;
        for (String form : GRAMMAR) {
            String pattern = form.replace("[i]", "\\[(?:###)*\\]").replace("+", "\\+")
                .replaceAll("(?<!@)k", "[a-h]").replace("@k", "@[a-h]").replace("#", "[0-9]") + ";";
            Matcher matcher = Pattern.compile(pattern).matcher(text).region(at, text.length());
            if (matcher.lookingAt()) {
                return -1 - matcher.end();
            }
            for (int end = text.length(); end > furthest; end--) {
                Matcher part = Pattern.compile(pattern).matcher(text).region(at, end);
                if (!part.matches() && part.hitEnd()) {
                    furthest = end;
                }
            }
        }
        return furthest;
    }

    private long settings() {
        String text = letters;
        letters = "";
        List<String> statements = new ArrayList<>();
        int at = 0;
        do {
            int end = follow(text, at);
            if (end >= 0) {
                return -1000 - end;
            }
            statements.add(text.substring(at, -1 - end));
            at = -1 - end;
        } while (at < text.length());
        World trial = now.copy();
        at = 0;
        for (String statement : statements) {
            if (!apply(trial, statement)) {
                return -2000 - at;
            }
            at += statement.length();
        }
        now = trial;
        return statements.size();
    }

    private static boolean apply(World world, String s) {
        if (s.charAt(0) == 'm') {
            world.manners[s.charAt(1) - 'a'] = s.charAt(2) - '0';
            return s.charAt(2) < '5';
        }
        if (s.charAt(1) > '5') {
            return false;
        }
        Layer layer = world.layers.get(s.charAt(1) - '0');
        switch (s.charAt(0)) {
            case 'l':
                if (s.charAt(2) > '5') {
                    return false;
                }
                layer.kind = Kind.values()[s.charAt(2) - '0'];
                layer.figure = s.charAt(3) - '0';
                return true;
            case 'o':
                layer.isOn = !layer.isOn;
                return true;
            case 'd':
                return layer.entries.remove(s.charAt(2) - 'a') != null;
            default:
                Entry entry = told(s);
                layer.entries.put(s.charAt(2) - 'a', entry);
                return entry != null;
        }
    }

    private static Entry told(String s) {
        switch (s.charAt(3)) {
            case '=':
                return new Entry(Form.NUMBER, Integer.parseInt(s.substring(4, 6)), -9);
            case '@':
                return new Entry(Form.REFERENCE, 0, s.charAt(4) - 'a');
            case '+':
                return new Entry(Form.SUM, Integer.parseInt(s.substring(5, 7)), s.charAt(4) - 'a');
            case '!':
                return new Entry(Form.GAP, 0, -9);
            default:
        }
        Entry list = new Entry(Form.LIST, 0, -9);
        for (int i = 4; s.charAt(i) != ']'; i += 3) {
            if (list.items.put(s.charAt(i) - '0', Integer.parseInt(s.substring(i + 1, i + 3))) != null) {
                return null;
            }
        }
        return list.items.size() > 4 ? null : list;
    }

    private long turns(int layer) {
        needLayer(layer);
        now.layers.get(layer).isOn ^= true;
        return now.layers.get(layer).isOn ? 1 : 0;
    }

    private long kind(int layer, int kind, int figure) {
        needLayer(layer);
        needWhat(kind, 5);
        refuseIf(figure < 0, -4);
        refuseIf(figure > 9, -6);
        Layer of = now.layers.get(layer);
        int old = 10 * of.kind.ordinal() + of.figure;
        of.kind = Kind.values()[kind];
        of.figure = figure;
        return old;
    }

    private long manner(int key, int manner) {
        needKey(key);
        needWhat(manner, 4);
        int old = now.manners[key];
        now.manners[key] = manner;
        return old;
    }

    private long put(int layer, int key, Entry entry) {
        return now.layers.get(layer).entries.put(key, entry) == null ? 0 : 1;
    }

    private long sets(int layer, int key, int n) {
        needLayer(layer);
        needKey(key);
        refuseIf(n < 0, -4);
        refuseIf(n > 99, -6);
        return put(layer, key, new Entry(Form.NUMBER, n, -9));
    }

    private long adds(int layer, int key, int item, int n) {
        needLayer(layer);
        needKey(key);
        Entry entry = now.layers.get(layer).entries.get(key);
        refuseIf(entry != null && entry.form != Form.LIST, -3);
        refuseIf(entry != null && entry.items.containsKey(item), -3);
        refuseIf(item < 0 || n < 0, -4);
        refuseIf(item > 9 || n > 99, -6);
        refuseIf(entry != null && entry.items.size() == 4, -6);
        if (entry == null) {
            entry = new Entry(Form.LIST, 0, -9);
            put(layer, key, entry);
        }
        entry.items.put(item, n);
        return entry.items.size();
    }

    private long refers(int layer, int key, int other, int n) {
        needLayer(layer);
        needKey(key);
        needKey(other);
        refuseIf(n < -1, -4);
        refuseIf(n > 99, -6);
        return put(layer, key, n == -1
            ? new Entry(Form.REFERENCE, 0, other) : new Entry(Form.SUM, n, other));
    }

    private long gap(int layer, int key) {
        needLayer(layer);
        needKey(key);
        return put(layer, key, new Entry(Form.GAP, 0, -9));
    }

    private long drops(int layer, int key) {
        needLayer(layer);
        needKey(key);
        refuseIf(now.layers.get(layer).entries.remove(key) == null, -1);
        return now.layers.get(layer).entries.size();
    }

    private long layer(int layer, int what) {
        needLayer(layer);
        needWhat(what, 5);
        Layer of = now.layers.get(layer);
        switch (what) {
            case 0: return of.isOn ? 1 : 0;
            case 1: return of.kind.ordinal();
            case 2: return of.figure;
            case 3: return of.rank() + 100;
            case 4: return bits(of.entries.keySet());
            default: return 5 - now.inOrder().indexOf(of);
        }
    }

    private long entry(int layer, int key, int what) {
        needLayer(layer);
        needKey(key);
        Entry entry = now.layers.get(layer).entries.get(key);
        refuseIf(entry == null, -1);
        needWhat(what, 2);
        switch (what) {
            case 0: return entry.form.ordinal();
            case 1: return entry.form == Form.LIST ? entry.items.size() : entry.number;
            default: return entry.other;
        }
    }

    private long value(int key, int what) {
        needKey(key);
        needWhat(what, 3);
        Resolving r = now.resolving(key);
        boolean isList = r.fault == null && r.value.number == null;
        switch (what) {
            case 0: return r.fault != null ? 2 : isList ? 1 : 0;
            case 1: return r.fault != null ? r.fault.code : isList ? r.value.items.size() : r.value.number;
            case 2: return now.offers(key).size();
            default:
                List<Integer> layers = new ArrayList<>();
                now.offers(key).forEach(layer -> layers.add(layer.index));
                return bits(layers);
        }
    }

    private long item(int key, int i, int what) {
        needKey(key);
        Resolving r = now.resolving(key);
        refuseIf(r.fault != null || r.value.items == null, -1);
        List<Integer> keys = new ArrayList<>(r.value.items.keySet());
        refuseIf(i < 0 || i >= keys.size(), -1);
        needWhat(what, 2);
        return what == 0 ? keys.get(i) : r.value.items.get(keys.get(i))[what - 1];
    }

    private long fault(int key, int k, int what) {
        needKey(key);
        Fault fault = now.resolving(key).fault;
        refuseIf(fault == null || k < 0 || fault.nth(k) == null, -1);
        needWhat(what, 1);
        return what == 0 ? fault.nth(k).code : fault.nth(k).key;
    }

    private long sources(int key, int what) {
        needKey(key);
        Resolving r = now.resolving(key);
        refuseIf(r.fault != null, -3);
        needWhat(what, 1);
        return bits(what == 0 ? r.value.sources : r.value.deep);
    }

    private long uses(int key, int what) {
        needKey(key);
        needWhat(what, 1);
        if (what == 0) {
            return bits(now.resolving(key).uses(key));
        }
        return bitsOf(8, k -> now.resolving(k).uses(k).contains(key));
    }

    private long all(int what) {
        needWhat(what, 2);
        return bitsOf(8, k -> {
            Resolving r = now.resolving(k);
            switch (what) {
                case 0: return r.fault != null && r.fault.last().code == 2 && r.fault.last().key == k;
                case 1: return r.fault == null;
                default: return r.fault == null && r.value.number != null;
            }
        });
    }

    private long hidden(int key) {
        needKey(key);
        return bitsOf(6, layer -> {
            World trial = now.copy();
            return trial.layers.get(layer).entries.remove(key) != null
                && trial.resolving(key).isLike(now.resolving(key));
        });
    }

    private long without(int layer, int key) {
        needLayer(layer);
        needKey(key);
        World trial = now.copy();
        trial.layers.get(layer).isOn = false;
        return trial.number(key);
    }

    private static void needNumber(int v) {
        refuseIf(v < 0, -4);
        refuseIf(v > 999, -6);
    }

    private long turn(int key, int v) {
        needKey(key);
        needNumber(v);
        for (int layer = 0; layer < 6 && now.number(key) != v; layer++) {
            World trial = now.copy();
            trial.layers.get(layer).isOn ^= true;
            if (trial.number(key) == v) {
                return layer;
            }
        }
        return -9;
    }

    private long set(int layer, int key, int other, int v) {
        needLayer(layer);
        needKey(key);
        needKey(other);
        needNumber(v);
        World trial = now.copy();
        trial.layers.get(layer).isOn = true;
        for (int n = 0; n < 100; n++) {
            trial.layers.get(layer).entries.put(key, new Entry(Form.NUMBER, n, -9));
            if (trial.number(other) == v) {
                return n;
            }
        }
        return -9;
    }

    private long byManner(int key, int v) {
        needKey(key);
        needNumber(v);
        World trial = now.copy();
        return bitsOf(5, manner -> {
            trial.manners[key] = manner;
            return trial.number(key) == v;
        });
    }

    private long fewest() {
        World trial = now.copy();
        long best = -9;
        for (int on = 63; on >= 0; on--) {
            for (Layer layer : trial.layers) {
                layer.isOn = (on >> layer.index & 1) == 1;
            }
            boolean isFewer = best < 0 || Integer.bitCount(on) <= Long.bitCount(best);
            if (isFewer && unlike(trial, now) == 0) {
                best = on;
            }
        }
        return best;
    }

    private static int unlike(World one, World other) {
        return bitsOf(8, key -> !one.resolving(key).isLike(other.resolving(key)));
    }

    private long since() {
        refuseIf(kept == null, -3);
        return unlike(now, kept);
    }

    private static long part(long above, long below, int part) {
        if (above == 0) {
            return part == 0 ? 0 : 1;
        }
        long common = BigInteger.valueOf(above).gcd(BigInteger.valueOf(below)).longValueExact();
        return (part == 0 ? above : below) / common;
    }

    private long missing(int key, int v, int t, int part) {
        needKey(key);
        refuseIf(v < 0 || t < 2, -4);
        refuseIf(v > 999 || t > 20, -6);
        needWhat(part, 1);
        return part(waysThere(now.copy(), 0, key, v, t), waysInAll(t), part);
    }

    private long waysInAll(int t) {
        long ways = 1;
        for (Layer layer : now.layers) {
            ways *= layer.isOn ? t : 1;
        }
        return ways;
    }

    /** Each layer that is on is off in one way of t. */
    private static long waysThere(World trial, int from, int key, int v, int t) {
        if (from == 6) {
            return trial.number(key) == v ? 1 : 0;
        }
        Layer layer = trial.layers.get(from);
        if (!layer.isOn) {
            return waysThere(trial, from + 1, key, v, t);
        }
        long ways = (t - 1) * waysThere(trial, from + 1, key, v, t);
        layer.isOn = false;
        ways += waysThere(trial, from + 1, key, v, t);
        layer.isOn = true;
        return ways;
    }

    private long mean(int part) {
        needWhat(part, 1);
        long sum = 0;
        long many = 0;
        for (int key = 0; key < 8; key++) {
            int number = now.number(key);
            sum += number < 0 ? 0 : number;
            many += number < 0 ? 0 : 1;
        }
        return part(sum, many, part);
    }

    private int firstNotSo(World world) {
        for (int key = 0; key < row.size(); key++) {
            int number = world.number(key);
            boolean isSo = row.get(key) == 100 ? number == -9 : number == row.get(key);
            if (!isSo) {
                return key;
            }
        }
        return -9;
    }

    private long whatIs(int layer, int what) {
        needLayer(layer);
        needWhat(what, 1);
        World trial = now.copy();
        Layer of = trial.layers.get(layer);
        return bitsOf(what == 0 ? 6 : 10, i -> {
            if (what == 0) {
                of.kind = Kind.values()[i];
            } else {
                of.figure = i;
            }
            return firstNotSo(trial) == -9;
        });
    }

    private long row(int v) {
        refuseIf(v < 0, -4);
        refuseIf(v > 100 || row.size() == 8, -6);
        row.add(v);
        return row.size();
    }

    private long judge() {
        int answer = firstNotSo(now);
        row.clear();
        return answer;
    }

    private long clear() {
        int size = row.size();
        row.clear();
        return size;
    }

    private int z;

    private int draw(int m) {
        z = (int) (z * 1664525L + 1013904223L);
        long unsigned = z & 0xffffffffL;
        return (int) (unsigned % (1L << 31) / 256 % m);
    }

    private long lots(int n, int seed, int what) {
        refuseIf(n < 1, -4);
        refuseIf(n > 20, -6);
        needWhat(what, 1);
        z = seed;
        long together = 0;
        for (int lot = 0; lot < n; lot++) {
            World trial = now.copy();
            for (int i = 0; i < 4; i++) {
                Layer layer = trial.layers.get(draw(6));
                int key = draw(8);
                layer.isOn = true;
                layer.entries.put(key, new Entry(Form.NUMBER, draw(100), -9));
            }
            for (int key = 0; key < 8; key++) {
                Resolving r = trial.resolving(key);
                together += what == 1 ? (r.fault != null ? 1 : 0)
                    : r.fault == null && r.value.number != null ? r.value.number : 0;
            }
        }
        return together;
    }

    private long image() {
        kept = now.copy();
        return now.entries();
    }

    private long on() {
        refuseIf(kept == null, -3);
        now = kept.copy();
        return now.entries();
    }

    private long count(int what) {
        switch (what) {
            case 0: return now.entries();
            case 1: return bitsOf(6, layer -> now.layers.get(layer).isOn);
            case 2: return bitsOf(8, key -> now.layers.stream().anyMatch(layer -> layer.entries.containsKey(key)));
            case 3: return now.layers.stream().flatMap(layer -> layer.entries.values().stream())
                .mapToInt(entry -> entry.items.size()).sum();
            case 4: return bitsOf(8, key -> now.resolving(key).fault != null);
            case 5: return row.size();
            case 6: return letters.length();
            case 11: case 12: case 13: case 14: case 15: case 16: return refusals[what - 10];
            default: return -9;
        }
    }
}
