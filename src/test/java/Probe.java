/**
 * Reads all that an object holds, in some 400 calls: what is now, the row, the letters, and the
 * image. Reading changes the object, so it can be read just once. Refusals are left out.
 */
final class Probe {
    private final Answers x;
    private final StringBuilder seen = new StringBuilder();

    private Probe(Answers x) {
        this.x = x;
    }

    static String of(Answers x) {
        Probe probe = new Probe(x);
        probe.counts();
        probe.values();
        probe.see("since", x.answer("since"));
        probe.see("judge", x.answer("judge"));
        probe.settings();
        probe.see("the row's", x.answer("count", 5));
        probe.held();
        if (probe.see("on", x.answer("on")) >= 0) {
            probe.held();
        }
        return probe.seen.toString();
    }

    private long see(String what, long answer) {
        seen.append(what).append(' ').append(answer).append('\n');
        return answer;
    }

    private void counts() {
        for (int what = 0; what <= 6; what++) {
            see("count " + what, x.answer("count", what));
        }
    }

    private void values() {
        for (int key = 0; key < 8; key++) {
            for (int what = 0; what < 4; what++) {
                see("value " + key + " " + what, x.answer("value", key, what));
            }
        }
    }

    /** A text that ends with an open number comes as that. */
    private void settings() {
        x.answer("letter", '2');
        x.answer("letter", ';');
        see("settings", x.answer("settings"));
    }

    private void held() {
        for (int layer = 0; layer < 6; layer++) {
            for (int what = 0; what < 6; what++) {
                see("layer " + layer + " " + what, x.answer("layer", layer, what));
            }
        }
        for (int key = 0; key < 8; key++) {
            see("manner " + key, x.answer("manner", key, 0));
        }
        long on = x.answer("count", 1);
        for (int layer = 0; layer < 6; layer++) {
            turnTo(layer, on, false);
        }
        for (int layer = 0; layer < 6; layer++) {
            entries(layer);
        }
        for (int layer = 0; layer < 6; layer++) {
            turnTo(layer, on, true);
        }
    }

    private void turnTo(int layer, long on, boolean isBack) {
        if ((on >> layer & 1) != 0) {
            see((isBack ? "back " : "off ") + layer, x.answer("turns", layer));
        }
    }

    /** A layer that is on alone, of the kind DEFAULTS, offers just what it has. */
    private void entries(int layer) {
        long keys = x.answer("layer", layer, 4);
        boolean hasLists = false;
        for (int key = 0; key < 8; key++) {
            if ((keys >> key & 1) != 0) {
                String entry = "entry " + layer + " " + key + " ";
                hasLists |= see(entry + 0, x.answer("entry", layer, key, 0)) == 1;
                see(entry + 1, x.answer("entry", layer, key, 1));
                see(entry + 2, x.answer("entry", layer, key, 2));
            }
        }
        if (hasLists) {
            items(layer, keys);
        }
    }

    private void items(int layer, long keys) {
        long kind = x.answer("kind", layer, 0, 0);
        x.answer("turns", layer);
        for (int key = 0; key < 8; key++) {
            long size = (keys >> key & 1) != 0 && x.answer("entry", layer, key, 0) == 1
                ? x.answer("entry", layer, key, 1) : 0;
            for (int i = 0; i < size; i++) {
                see("item key " + key + " " + i, x.answer("item", key, i, 0));
                see("item " + key + " " + i, x.answer("item", key, i, 1));
            }
        }
        x.answer("turns", layer);
        x.answer("kind", layer, (int) kind / 10, (int) kind % 10);
    }
}
