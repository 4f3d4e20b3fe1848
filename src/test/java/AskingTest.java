/** Promises 20 to 36: what would be, odds, rows, lots, the image, what is counted. */
public final class AskingTest {
    private static final Due DUE = new Due();
    private static final long REFUSED = 4000000000000000000L;

    public static void main(String[] args) {
        promise20();
        promise20Likeness();
        promise21();
        promise22();
        promise23();
        promise24();
        promise25();
        promise26();
        promise27();
        promise28();
        promise29();
        promise30();
        promise31();
        promise32();
        promise33();
        promise34And35();
        promise36();
        refusalsChangeNothing();
        questionsChangeNothing();
        DUE.end();
    }

    private static void is(String call, long got, long want) {
        DUE.is(call, got, want);
    }

    private static void promise20() {
        SettingsInLayers x = Due.told("o0;o1;o2;e0a=05;e1a=05;e2a=07;e3a=07;e5a!;");
        is("20: below, and off", x.hidden(0), 1 | 2 | 8 | 32);
        x.turns(2);
        is("20: alike ones", x.hidden(0), 1 | 2 | 4 | 8 | 32);
        x.manner(0, 2);
        is("20: TOTAL", x.hidden(0), 4 | 8 | 32);
        Due.tell(x, "e1a!;");
        is("20: behind a GAP nothing", x.hidden(0), 1 | 4 | 8 | 32);
        is("20: without ENTRIES", x.hidden(1), 0);
        is("20: -1", x.hidden(8), -1);
        is("20: -1", x.hidden(-1), -1);
    }

    /** LIKE looks at codes of all CAUSES, not at KEYS; at ITEMS, not at their SOURCES. */
    private static void promise20Likeness() {
        SettingsInLayers x = Due.told("o0;o1;e0a@b;e1a@c;");
        is("20: alike codes", x.hidden(0), 3);
        Due.tell(x, "o2;e2c@h;");
        is("20: a CAUSE more", x.hidden(0), 1);
        Due.tell(x, "d2c;e2c@c;");
        is("20: another CAUSE", x.hidden(0), 1);
        Due.tell(x, "e0a[101202];e1a[101202];");
        is("20: another SOURCE", x.hidden(0), 3);
        Due.tell(x, "e1a[202101];");
        is("20: another order", x.hidden(0), 1);
        Due.tell(x, "e1a[101203];");
        is("20: another NUMBER", x.hidden(0), 1);
        Due.tell(x, "e1a[101];");
        is("20: one ITEM less", x.hidden(0), 1);
        Due.tell(x, "e1a[101302];");
        is("20: another ITEM KEY", x.hidden(0), 1);
        Due.tell(x, "e0a=02;");
        is("20: a LIST and a NUMBER", x.hidden(0), 1);
        Due.tell(x, "e1a@d;");
        is("20: a FAULT and a NUMBER", x.hidden(0), 1);
        Due.tell(x, "e0a=05;e1a=05;");
        is("20: a NUMBER again", x.hidden(0), 3);
    }

    private static void promise21() {
        SettingsInLayers x = Due.told("o0;o1;e0a=05;e1a=00;e5a=09;e1b[101];");
        is("21: the highest", x.without(1, 0), 5);
        is("21: the lower", x.without(0, 0), 0);
        is("21: off already", x.without(5, 0), 0);
        is("21: a LIST", x.without(0, 1), -9);
        is("21: nothing", x.without(1, 1), -9);
        is("21: it stays ON", x.count(1), 3);
        is("21: -1", x.without(6, 0), -1);
        is("21: -1", x.without(-1, 0), -1);
        is("21: -1", x.without(0, 8), -1);
        is("21: -1", x.without(0, -1), -1);
        is("21: -9 is no REFUSAL", x.count(11), 4);
    }

    private static void promise22() {
        SettingsInLayers x = Due.told("o1;o3;e0a=05;e1a=06;e2a=05;e3a=07;e4a=05;e5a=05;");
        is("22: off", x.turn(0, 6), 3);
        is("22: ON, of several the least", x.turn(0, 5), 4);
        is("22: it is now", x.turn(0, 7), -9);
        is("22: by none", x.turn(0, 8), -9);
        Due.tell(x, "ma2;");
        is("22: TOTAL", x.turn(0, 18), 0);
        is("22: TOTAL, less", x.turn(0, 7), 1);
        x.sets(0, 0, 30);
        is("22: as it is now", x.turn(0, 43), 0);
        Due.tell(x, "e0b@a;ma0;");
        is("22: a KEY that refers", x.turn(1, 7), 0);
        is("22: 0 and 999", x.turn(0, 0) + x.turn(0, 999), -18);
        is("22: -1 before -4", x.turn(8, -1), -1);
        is("22: -1", x.turn(-1, 1000), -1);
        is("22: -4", x.turn(0, -1), -4);
        is("22: -6", x.turn(0, 1000), -6);
        is("22: -4 even where it has none", x.turn(7, -9), -4);
        is("22: nothing changes", x.count(1), 10);
    }

    private static void promise23() {
        SettingsInLayers x = Due.told("o0;e0a=05;e0b+a20;e1c[101];");
        is("23: the same KEY", x.set(0, 0, 0, 99), 99);
        is("23: 0", x.set(0, 0, 0, 0), 0);
        is("23: another", x.set(0, 0, 1, 60), 40);
        is("23: too small", x.set(0, 0, 1, 19), -9);
        is("23: too great", x.set(0, 0, 1, 120), -9);
        is("23: a LAYER that is off", x.set(5, 0, 1, 60), 40);
        is("23: below another", x.set(0, 1, 0, 5), 0);
        is("23: without effect", x.set(0, 7, 0, 6), -9);
        is("23: instead of a LIST", x.set(1, 2, 2, 6), 6);
        is("23: nothing changes", x.count(1), 1);
        is("23: nothing changes", x.entry(0, 0, 1), 5);
        Due.tell(x, "mb3;o2;e2b=30;");
        is("23: of several the least", x.set(0, 0, 1, 30), 0);
        is("23: -1 before -4", x.set(6, 0, 0, -1), -1);
        is("23: -1", x.set(-1, 0, 0, 0), -1);
        is("23: -1", x.set(0, 8, 0, 0), -1);
        is("23: -1", x.set(0, -1, 0, 0), -1);
        is("23: -1", x.set(0, 0, 8, 1000), -1);
        is("23: -1", x.set(0, 0, -1, 0), -1);
        is("23: -4", x.set(0, 0, 0, -1), -4);
        is("23: -6", x.set(0, 0, 0, 1000), -6);
        is("23: 999", x.set(0, 0, 0, 999), -9);
    }

    private static void promise24() {
        SettingsInLayers x = Due.told("o0;o1;o2;e0a=05;e1a=09;e2a=05;");
        is("24: HIGHEST, LOWEST", x.byManner(0, 5), 3);
        is("24: TOTAL", x.byManner(0, 19), 4);
        is("24: GREATEST", x.byManner(0, 9), 8);
        is("24: none", x.byManner(0, 0), 0);
        x.manner(0, 4);
        is("24: whichever it is now", x.byManner(0, 5), 3);
        is("24: it stays", x.manner(0, 4), 4);
        Due.tell(x, "e1b@a;");
        is("24: not of others", x.byManner(1, 5), 0);
        x.sets(2, 0, 6);
        is("24: as it is now", x.byManner(0, 6), 1);
        is("24: -1 before -4", x.byManner(8, -1), -1);
        is("24: -1", x.byManner(-1, 0), -1);
        is("24: -4", x.byManner(0, -1), -4);
        is("24: -6", x.byManner(0, 1000), -6);
        is("24: 999", x.byManner(0, 999), 0);
    }

    private static void promise25() {
        SettingsInLayers x = new SettingsInLayers();
        is("25: none are needed", x.fewest(), 0);
        Due.tell(x, "o0;o1;o2;");
        is("25: nor those without ENTRIES", x.fewest(), 0);
        Due.tell(x, "e0a=01;e1a=02;e2a=02;");
        is("25: of several the least", x.fewest(), 2);
        Due.tell(x, "e0b=05;");
        is("25: two", x.fewest(), 3);
        Due.tell(x, "e4a=02;e4b=05;");
        is("25: one that is off", x.fewest(), 16);
        Due.tell(x, "ma2;");
        is("25: TOTAL", x.fewest(), 7);
        is("25: nothing changes", x.count(1), 7);
        x.sets(2, 0, 4);
        is("25: as it is now", x.fewest(), 7);
        x.sets(2, 0, 2);
        Due.tell(x, "e3a=00;e4c=01;e3b=05;ma3;");
        is("25: GREATEST", x.fewest(), 3);
        Due.tell(x, "e5a@h;e5b=05;o5;");
        is("25: a FAULT", x.fewest(), 32);
        x = Due.told("o0;o1;o2;o3;o4;o5;e0a=01;e1b=01;e2c=01;e3d=01;e4e=01;e5f=01;");
        is("25: all", x.fewest(), 63);
    }

    private static void promise26() {
        SettingsInLayers x = Due.told("o0;e0a=01;e0b@a;e0c=03;e0d[101];e0e@h;");
        is("26: -3", x.since(), -3);
        x.image();
        is("26: none", x.since(), 0);
        Due.tell(x, "e0a=02;");
        is("26: and what refers", x.since(), 3);
        Due.tell(x, "o1;e1a=01;e1d[101];");
        is("26: LIKE by other LAYERS", x.since(), 0);
        Due.tell(x, "e0e@g;e1d[102];");
        is("26: alike codes", x.since(), 8);
        Due.tell(x, "e0e@e;e1d[101];");
        is("26: other codes", x.since(), 16);
        Due.tell(x, "o0;");
        is("26: off", x.since(), 2 | 4 | 16);
        x.image();
        is("26: a new one", x.since(), 0);
        is("26: counted", x.count(13), 1);
    }

    private static void odds(SettingsInLayers x, int v, int t, long above, long below) {
        is("27: above", x.missing(0, v, t, 0), above);
        is("27: below", x.missing(0, v, t, 1), below);
    }

    private static void promise27() {
        SettingsInLayers x = Due.told("o0;o1;o2;e0a=01;e1a=02;e2a=02;e3a=01;");
        odds(x, 2, 2, 3, 4);
        odds(x, 1, 2, 1, 8);
        odds(x, 2, 3, 8, 9);
        odds(x, 1, 3, 2, 27);
        odds(x, 1, 20, 19, 8000);
        odds(x, 0, 20, 0, 1);
        odds(x, 3, 2, 0, 1);
        Due.tell(x, "ma2;");
        odds(x, 5, 10, 729, 1000);
        odds(x, 3, 10, 81, 500);
        x = Due.told("e0a=01;");
        odds(x, 1, 2, 0, 1);
        x = Due.told("o0;o1;o2;o3;o4;o5;e5a=00;ma4;");
        odds(x, 0, 20, 0, 1);
        x.manner(0, 0);
        odds(x, 0, 20, 19, 20);
        Due.tell(x, "e0a=01;e1a=01;e2a=01;e3a=01;e4a=01;e5a=01;ma2;");
        odds(x, 6, 20, 47045881, 64000000);
        odds(x, 1, 20, 57, 32000000);
        is("27: nothing changes", x.count(1), 63);
        refusedLong("27: -1 before -4", x.missing(8, -1, 1, 2), -1);
        refusedLong("27: -1", x.missing(-1, 0, 2, 0), -1);
        refusedLong("27: -4, v", x.missing(0, -1, 21, 2), -4);
        refusedLong("27: -4, t", x.missing(0, 1000, 1, 2), -4);
        refusedLong("27: -6, v", x.missing(0, 1000, 2, 2), -6);
        refusedLong("27: -6, t", x.missing(0, 0, 21, 2), -6);
        refusedLong("27: -2", x.missing(0, 0, 2, 2), -2);
        refusedLong("27: -2", x.missing(0, 0, 2, -1), -2);
        is("27: counted -1", x.count(11), 2);
        is("27: counted -2", x.count(12), 2);
        is("27: counted -4", x.count(14), 2);
        is("27: counted -6", x.count(16), 2);
        is("27: 999", x.missing(0, 999, 2, 0), 0);
    }

    private static void refusedLong(String why, long got, int code) {
        is(why, got, REFUSED - code);
    }

    private static void promise28() {
        SettingsInLayers x = new SettingsInLayers();
        is("28: nothing", x.mean(0), 0);
        is("28: nothing", x.mean(1), 1);
        Due.tell(x, "o0;e0a=00;e0b=00;");
        is("28: 0", x.mean(0), 0);
        is("28: 0", x.mean(1), 1);
        Due.tell(x, "e0c=05;");
        is("28: above", x.mean(0), 5);
        is("28: below", x.mean(1), 3);
        Due.tell(x, "e0c=01;");
        is("28: 1 above", x.mean(0), 1);
        is("28: 3 below", x.mean(1), 3);
        Due.tell(x, "e0c=05;e0d=01;e0e[199];e0f@h;");
        is("28: more KEYS", x.count(2), 63);
        is("28: in least terms", x.mean(0), 3);
        is("28: in least terms", x.mean(1), 2);
        Due.tell(x, "e0d=03;");
        is("28: whole", x.mean(0), 2);
        is("28: whole", x.mean(1), 1);
        refusedLong("28: -2", x.mean(2), -2);
        refusedLong("28: -2", x.mean(-1), -2);
        is("28: counted", x.count(12), 2);
    }

    private static void rows(SettingsInLayers x, int... numbers) {
        x.clear();
        for (int number : numbers) {
            x.row(number);
        }
    }

    private static void promise29() {
        SettingsInLayers x = Due.told("o1;o2;l110;l213;e1a=01;e2a=02;e1e=05;e2e=06;e2d=04;");
        is("29: of none all is so", x.whatIs(2, 0), 63);
        is("29: of none all is so", x.whatIs(2, 1), 1023);
        rows(x, 2);
        is("29: on top", x.whatIs(2, 0), 2 | 4 | 8 | 32);
        rows(x, 1);
        is("29: below", x.whatIs(2, 0), 1 | 16);
        rows(x, 2, 100, 100, 4, 6);
        is("29: with the last KEY", x.whatIs(2, 0), 2 | 4 | 8);
        rows(x, 2, 100, 100, 4, 5);
        is("29: but not the last KEY", x.whatIs(2, 0), 32);
        rows(x, 2, 100, 100, 100);
        is("29: never", x.whatIs(2, 0), 0);
        x.kind(2, 5, 0);
        rows(x, 2, 100, 100, 4, 5);
        is("29: FIGURES of a MASK", x.whatIs(2, 1), 8);
        rows(x, 2, 100, 100, 100);
        is("29: FIGURES of a MASK", x.whatIs(2, 1), 7);
        x.kind(1, 2, 5);
        rows(x, 1, 100, 100, 4);
        is("29: RANKS of a MASK", x.whatIs(2, 1), 8);
        rows(x, 2, 100, 100, 4);
        is("29: RANKS of a MASK", x.whatIs(2, 1), 16 | 32 | 64 | 128 | 256 | 512);
        is("29: the ROW stays", x.count(5), 4);
        is("29: nothing changes", x.kind(2, 5, 0), 50);
        is("29: -1 before -2", x.whatIs(6, 2), -1);
        is("29: -1", x.whatIs(-1, 0), -1);
        is("29: -2", x.whatIs(0, 2), -2);
        is("29: -2", x.whatIs(0, -1), -2);
    }

    private static void promise30() {
        SettingsInLayers x = new SettingsInLayers();
        is("30: first", x.row(0), 1);
        is("30: second", x.row(100), 2);
        is("30: -4", x.row(-1), -4);
        is("30: -6", x.row(101), -6);
        is("30: none of these", x.count(5), 2);
        for (int i = 3; i <= 8; i++) {
            is("30: more", x.row(i), i);
        }
        is("30: full", x.row(1), -6);
        is("30: -4 before -6", x.row(-1), -4);
        is("30: full", x.count(5), 8);
    }

    private static void promise31() {
        SettingsInLayers x = Due.told("o0;e0a=01;e0b+c99;e0c=01;e0d[199];e0f=00;");
        is("31: of none", x.judge(), -9);
        rows(x, 1, 100, 1, 100, 100, 0, 100, 100);
        is("31: a NUMBER 100 is not none", x.judge(), 1);
        is("31: the ROW has none", x.count(5), 0);
        Due.tell(x, "e0b=98;");
        rows(x, 1, 98, 1, 100, 100, 0, 100, 100);
        is("31: all is so", x.judge(), -9);
        is("31: the ROW has none then, too", x.count(5), 0);
        rows(x, 2);
        is("31: the first", x.judge(), 0);
        rows(x, 100);
        is("31: it has one", x.judge(), 0);
        rows(x, 1, 98, 1, 1);
        is("31: of a LIST", x.judge(), 3);
        rows(x, 1, 98, 1, 100, 1);
        is("31: of a FAULT", x.judge(), 4);
        rows(x, 1, 98, 1, 100, 100, 100);
        is("31: 0 is one", x.judge(), 5);
        rows(x, 1, 98, 1, 100, 100, 0, 100, 0);
        is("31: the last", x.judge(), 7);
    }

    private static void promise32() {
        SettingsInLayers x = new SettingsInLayers();
        is("32: none", x.clear(), 0);
        x.row(5);
        x.row(6);
        is("32: two", x.clear(), 2);
        is("32: none then", x.clear(), 0);
        is("32: none then", x.row(7), 1);
    }

    /** Draws are done here once more, with longs, and what comes of them is put by calls. */
    private static void promise33() {
        for (int z : new int[] {0, 1, -1, 12345, Integer.MIN_VALUE, Integer.MAX_VALUE}) {
            for (int n : new int[] {1, 2, 20}) {
                lots(n, z);
            }
        }
        SettingsInLayers x = new SettingsInLayers();
        is("33: -4 before -2", x.lots(0, 0, 2), -4);
        is("33: -4", x.lots(Integer.MIN_VALUE, 0, 0), -4);
        is("33: -6 before -2", x.lots(21, 0, 2), -6);
        is("33: -2", x.lots(1, 0, 2), -2);
        is("33: -2", x.lots(1, 0, -1), -2);
        is("33: nothing changes", x.count(0) + x.count(1), 0);
    }

    private static final String BEFORE_LOTS = "o0;l054;ma2;mb3;e0a@b;e1b+c50;e2d[101];e5e!;mf4;e0h@h;";

    private static void lots(int n, int seed) {
        SettingsInLayers x = Due.told(BEFORE_LOTS);
        long numbers = 0;
        long faults = 0;
        long z = seed;
        for (int lot = 0; lot < n; lot++) {
            SettingsInLayers y = Due.told(BEFORE_LOTS);
            for (int i = 0; i < 4; i++) {
                z = (int) (z * 1664525 + 1013904223);
                int layer = (int) ((z & 0x7fffffffL) / 256 % 6);
                z = (int) (z * 1664525 + 1013904223);
                int key = (int) ((z & 0x7fffffffL) / 256 % 8);
                z = (int) (z * 1664525 + 1013904223);
                int number = (int) ((z & 0x7fffffffL) / 256 % 100);
                if (y.layer(layer, 0) == 0) {
                    y.turns(layer);
                }
                y.sets(layer, key, number);
            }
            for (int key = 0; key < 8; key++) {
                numbers += y.value(key, 0) == 0 ? y.value(key, 1) : 0;
                faults += y.value(key, 0) == 2 ? 1 : 0;
            }
        }
        is("33: NUMBERS of " + n + ", seed " + seed, x.lots(n, seed, 0), numbers);
        is("33: FAULTS of " + n + ", seed " + seed, x.lots(n, seed, 1), faults);
        is("33: nothing changes", x.count(0), 5);
    }

    private static SettingsInLayers imaged() {
        SettingsInLayers x = Due.told("o0;o3;l027;l319;md3;me4;e0a=01;e0b[105206];e3c+a05;e5h@c;e3d!;");
        is("35: -3", x.on(), -3);
        is("34: how many ENTRIES", x.image(), 5);
        return x;
    }

    private static void promise34And35() {
        String then = state(imaged());
        SettingsInLayers x = imaged();
        Due.tell(x, "o0;o1;l033;l310;md0;me1;e0a!;d3c;e0b[905106207];e5g=01;e3d=04;e5h@a;");
        x.row(5);
        x.letter('o');
        int refused = x.count(13);
        is("35: how many ENTRIES", x.on(), 5);
        is("35: ORDER too", x.layer(0, 5), 0);
        is("35: the ROW stays", x.count(5), 1);
        is("35: letters stay", x.count(6), 1);
        is("35: REFUSALS stay", x.count(13), refused);
        is("35: all as then", then.equals(state(x)) ? 1 : 0, 1);
        onceMore(then);
    }

    private static void onceMore(String then) {
        SettingsInLayers x = imaged();
        x.on();
        x.sets(4, 4, 4);
        x.adds(0, 1, 8, 8);
        is("35: the image is not what is now", x.on(), 5);
        is("35: and once more", then.equals(state(x)) ? 1 : 0, 1);
        x.drops(0, 0);
        is("34: a new one", x.image(), 4);
        x.sets(0, 0, 9);
        is("35: from the new one", x.on(), 4);
        SettingsInLayers empty = new SettingsInLayers();
        is("34: of nothing", empty.image(), 0);
        empty.sets(0, 0, 1);
        is("35: to nothing", empty.on(), 0);
        is("35: to nothing", empty.entry(0, 0, 0), -1);
    }

    /** All that looking tells of what an image has. */
    private static String state(SettingsInLayers x) {
        StringBuilder s = new StringBuilder();
        for (int layer = 0; layer < 6; layer++) {
            for (int what = 0; what < 6; what++) {
                s.append(x.layer(layer, what)).append(' ');
            }
            for (int key = 0; key < 8; key++) {
                int form = x.entry(layer, key, 0);
                s.append(form).append(' ');
                if (form >= 0) {
                    s.append(x.entry(layer, key, 1)).append(' ').append(x.entry(layer, key, 2)).append(' ');
                }
            }
        }
        for (int key = 0; key < 8; key++) {
            int manner = x.manner(key, 0);
            x.manner(key, manner);
            s.append(manner).append(' ');
            for (int what = 0; what < 4; what++) {
                s.append(x.value(key, what)).append(' ');
            }
            for (int i = 0; x.value(key, 0) == 1 && i < x.value(key, 1); i++) {
                s.append(x.item(key, i, 0)).append(' ').append(x.item(key, i, 1)).append(' ');
            }
        }
        return s.toString();
    }

    private static void promise36() {
        SettingsInLayers x = Due.told("o0;o5;e0a=01;e5a[101202];e4h[304];e0c+a05;e5e!;e5f@f;");
        is("36: ENTRIES", x.count(0), 6);
        is("36: ON", x.count(1), 33);
        is("36: KEYS with ENTRIES", x.count(2), 1 | 4 | 16 | 32 | 128);
        is("36: ITEMS", x.count(3), 3);
        is("36: KEYS with FAULTS", x.count(4), 255 & ~1);
        Due.tell(x, "d0a;d5a;e0a[504];");
        is("36: ENTRIES", x.count(0), 5);
        is("36: ITEMS", x.count(3), 2);
        Due.tell(x, "d0a;");
        is("36: KEYS with ENTRIES", x.count(2), 4 | 16 | 32 | 128);
        x.row(1);
        x.letter('x');
        x.letter('x');
        is("36: in the ROW", x.count(5), 1);
        is("36: letters", x.count(6), 2);
        for (int what : new int[] {-1, 7, 8, 9, 10, 17, 18, Integer.MIN_VALUE, Integer.MAX_VALUE}) {
            is("36: -9", x.count(what), -9);
        }
        for (int what = 11; what <= 16; what++) {
            is("36: no REFUSALS, -9 is none", x.count(what), 0);
        }
        x.turns(6);
        x.manner(0, 5);
        x.manner(0, 5);
        x.since();
        x.on();
        x.adds(5, 4, 1, 1);
        x.letter(-1);
        x.row(-1);
        x.row(-1);
        x.row(-1);
        x.row(101);
        int[] refusals = {1, 2, 3, 4, 0, 1};
        for (int i = 0; i < 6; i++) {
            is("36: REFUSALS", x.count(11 + i), refusals[i]);
        }
    }

    private static void isStill(String why, SettingsInLayers x, String then) {
        is(why, then.equals(state(x)) ? 1 : 0, 1);
        is(why + ": the ROW", x.count(5), 1);
        is(why + ": letters", x.count(6), 1);
    }

    private static void refusalsChangeNothing() {
        SettingsInLayers x = Due.told("o0;o1;l025;l118;ma2;e0a=01;e1b[105206];e1c+a05;");
        x.image();
        x.row(5);
        x.letter('e');
        String then = state(x);
        x.letter(256);
        x.turns(6);
        x.kind(0, 6, 1);
        x.kind(0, 1, 10);
        x.manner(0, 5);
        x.sets(0, 0, 100);
        x.adds(1, 1, 1, 1);
        x.adds(1, 7, 1, 100);
        x.refers(0, 0, 8, -1);
        x.refers(0, 0, 1, -2);
        x.gap(0, 8);
        x.drops(0, 7);
        x.row(101);
        x.lots(21, 1, 1);
        isStill("refusals change nothing", x, then);
    }

    private static void questionsChangeNothing() {
        SettingsInLayers x = Due.told("o0;o1;l025;l118;ma2;e0a=01;e1b[105206];e1c+a05;e2h@a;");
        x.image();
        x.row(1);
        x.letter('e');
        x.sets(0, 4, 4);
        String then = state(x);
        for (int key = 0; key < 8; key++) {
            x.hidden(key);
            x.without(0, key);
            x.turn(key, 1);
            x.set(2, key, 0, 50);
            x.byManner(key, 1);
            x.missing(key, 1, 3, 0);
        }
        for (int layer = 0; layer < 6; layer++) {
            x.whatIs(layer, 0);
            x.whatIs(layer, 1);
        }
        x.fewest();
        x.mean(0);
        x.lots(20, 7, 0);
        is("questions: what became otherwise stays", x.since(), 16);
        isStill("questions change nothing", x, then);
    }
}
