/** Promises 1 to 13: what is told of layers, entries and manners. */
public final class TellingTest {
    private static final Due DUE = new Due();

    public static void main(String[] args) {
        promise1();
        promise2();
        promise3WellFormed();
        promise3Statements();
        promise3Comes();
        promise4();
        promise5();
        promise6();
        promise7();
        promise8();
        promise9();
        promise10();
        promise11();
        promise12Orders();
        promise12();
        promise13();
        DUE.end();
    }

    private static void promise1() {
        SettingsInLayers x = new SettingsInLayers();
        for (int layer = 0; layer < 6; layer++) {
            DUE.is("1: off", x.layer(layer, 0), 0);
            DUE.is("1: DEFAULTS", x.layer(layer, 1), 0);
            DUE.is("1: FIGURE", x.layer(layer, 2), 0);
            DUE.is("1: RANK and 100", x.layer(layer, 3), 100 + layer);
            DUE.is("1: without ENTRIES", x.layer(layer, 4), 0);
            DUE.is("1: behind it", x.layer(layer, 5), 5 - layer);
            for (int key = 0; key < 8; key++) {
                DUE.is("1: no ENTRY", x.entry(layer, key, 0), -1);
            }
        }
        for (int key = 0; key < 8; key++) {
            DUE.is("1: HIGHEST", x.manner(key, 0), 0);
            DUE.is("1: nothing to RESOLVE", x.value(key, 1), 1);
        }
        DUE.is("1: no image", x.since(), -3);
        DUE.is("1: no letters", x.count(6), 0);
        DUE.is("1: no ROW", x.count(5), 0);
    }

    private static void promise2() {
        SettingsInLayers x = new SettingsInLayers();
        DUE.is("2: first", x.letter(0), 1);
        DUE.is("2: second", x.letter(255), 2);
        DUE.is("2: below", x.letter(-1), -4);
        DUE.is("2: far below", x.letter(Integer.MIN_VALUE), -4);
        DUE.is("2: above", x.letter(256), -6);
        DUE.is("2: far above", x.letter(Integer.MAX_VALUE), -6);
        DUE.is("2: refused ones don't come", x.count(6), 2);
        for (int i = 3; i <= 96; i++) {
            DUE.is("2: more", x.letter('o'), i);
        }
        DUE.is("2: no room", x.letter('o'), -6);
        DUE.is("2: BELOW before ROOM", x.letter(-1), -4);
        DUE.is("2: full", x.count(6), 96);
        DUE.is("2: counted", x.count(16), 3);
        DUE.is("2: counted", x.count(14), 3);
    }

    private static void text(String text, int want) {
        SettingsInLayers x = new SettingsInLayers();
        DUE.is("3: " + text, Due.settings(x, text), want);
        DUE.is("3: letters are no more", x.count(6), 0);
        for (int code = 11; code <= 16; code++) {
            DUE.is("3: nothing is counted", x.count(code), 0);
        }
    }

    private static void promise3WellFormed() {
        text("", -1000);
        text(";", -1000);
        text("O0;", -1000);
        text("o", -1001);
        text("oa", -1001);
        text("o0", -1002);
        text("o;", -1001);
        text("ea=00;", -1001);
        text("da;", -1001);
        text("o00", -1002);
        text("o0;;", -1003);
        text("o0;o", -1004);
        text("l", -1001);
        text("l1;", -1002);
        text("l12;", -1003);
        text("l123", -1004);
        text("l1234", -1004);
        text("e;", -1001);
        text("e0;", -1002);
        text("e0A=00;", -1002);
        text("e0i=00;", -1002);
        text("e0`=00;", -1002);
        text("e0h", -1003);
        text("e0h;", -1003);
        text("e0h=/0;", -1004);
        text("e0h=0:;", -1005);
        text("e0h=000;", -1006);
        text("e0h[", -1004);
        text("e0h[;", -1004);
        text("e0h[1];", -1005);
        text("e0h[12];", -1006);
        text("e0h[123;", -1007);
        text("e0h[1234];", -1008);
        text("e0h[123]]", -1008);
        text("e0h@;", -1004);
        text("e0h@1;", -1004);
        text("e0h@i;", -1004);
        text("e0h@a", -1005);
        text("e0h@a0;", -1005);
        text("e0h+;", -1004);
        text("e0h+a;", -1005);
        text("e0h+a1;", -1006);
        text("e0h+a123;", -1007);
        text("e0h!!", -1004);
        text("d0;", -1002);
        text("d0a", -1003);
        text("d0a0;", -1003);
        text("m0;", -1001);
        text("ma;", -1002);
        text("mi0;", -1001);
        text("ma0", -1003);
        text("ma00;", -1003);
        text("o0;\0", -1003);
        text("o0;" + (char) 255, -1003);
        text("o6;o0", -1005);
        text("d0a;x", -1004);
    }

    private static void promise3Statements() {
        text("o5;", 1);
        text("o6;", -2000);
        text("o0;o9;", -2003);
        text("l500;", 1);
        text("l600;", -2000);
        text("l050;", 1);
        text("l060;", -2000);
        text("l009;", 1);
        text("e5h=99;", 1);
        text("e6h=99;", -2000);
        text("e5h[000112223334];", 1);
        text("e5h[000111222333];", 1);
        text("e5h[000111222333444];", -2000);
        text("e5h[100199];", -2000);
        text("e5h[100100100];", -2000);
        text("e5h[100200300100];", -2000);
        text("e5h[];", 1);
        text("e5h@h;", 1);
        text("e6h@h;", -2000);
        text("e5h+h99;", 1);
        text("e9h+h99;", -2000);
        text("e5h!;", 1);
        text("e7h!;", -2000);
        text("d5h;", -2000);
        text("d6h;", -2000);
        text("e5h!;d5h;", 2);
        text("e5h!;d5h;d5h;", -2009);
        text("e5h!;d5g;", -2005);
        text("e5h!;d4h;", -2005);
        text("mh4;", 1);
        text("mh5;", -2000);
        text("mh9;", -2000);
        text("o0;o0;mh4;mh5;o9;", -2010);
        StringBuilder most = new StringBuilder();
        for (int i = 0; i < 32; i++) {
            most.append("o").append(i % 6).append(";");
        }
        text(most.toString(), 32);
        text(most.substring(0, 93) + "o0x", -1095);
        text(most.substring(0, 92) + "o0;o", -1092);
        text(most.substring(0, 93) + "l00", -1096);
    }

    private static void promise3Comes() {
        SettingsInLayers x = new SettingsInLayers();
        DUE.is("3: l", Due.settings(x, "l027;"), 1);
        DUE.is("3: KIND", x.layer(0, 1), 2);
        DUE.is("3: FIGURE", x.layer(0, 2), 7);
        DUE.is("3: ORDER", x.layer(0, 5), 0);
        DUE.is("3: o twice", Due.settings(x, "o1;o2;o1;"), 3);
        DUE.is("3: ON, off", x.count(1), 4);
        DUE.is("3: told again", Due.settings(x, "o2;"), 1);
        DUE.is("3: off again", x.count(1), 0);
        DUE.is("3: e", Due.settings(x, "e0a=42;e1b[307912];e2c@d;e3e+f09;e4g!;"), 5);
        entry(x, 0, 0, 0, 42, -9);
        entry(x, 1, 1, 1, 2, -9);
        entry(x, 2, 2, 2, 0, 3);
        entry(x, 3, 4, 3, 9, 5);
        entry(x, 4, 6, 4, 0, -9);
        DUE.is("3: d, and another there", Due.settings(x, "d0a;e1b[];mh3;"), 3);
        DUE.is("3: no more", x.entry(0, 0, 0), -1);
        entry(x, 1, 1, 1, 0, -9);
        DUE.is("3: m", x.manner(7, 0), 3);
        DUE.is("3: with a FAULT nothing", Due.settings(x, "o0;l055;e0a=01;d1b;mh2;e0b[101102];"), -2023);
        DUE.is("3: nothing of kind", x.kind(0, 2, 7), 27);
        DUE.is("3: nothing of entries", x.count(0), 4);
        DUE.is("3: nothing on", x.count(1), 0);
        DUE.is("3: nothing of manners", x.manner(7, 0), 0);
        DUE.is("3: and with the other FAULT", Due.settings(x, "o0;x"), -1003);
        DUE.is("3: nothing on", x.count(1), 0);
        DUE.is("3: letters of a longer text are no more", Due.settings(x, "o0"), -1002);
        DUE.is("3: nor those of one with a FAULT", Due.settings(x, "d7h;e0a=42;"), -2000);
        DUE.is("3: nor those of one with a FAULT", Due.settings(x, "e0a"), -1003);
        DUE.is("3: d behind e of the same text", Due.settings(x, "e5h=01;d5h;e5h!;"), 3);
        entry(x, 5, 7, 4, 0, -9);
        itemsInOrder();
    }

    private static void itemsInOrder() {
        SettingsInLayers x = Due.told("o0;e0a[907145];");
        DUE.is("3: first ITEM KEY", x.item(0, 0, 0), 9);
        DUE.is("3: first NUMBER", x.item(0, 0, 1), 7);
        DUE.is("3: second ITEM KEY", x.item(0, 1, 0), 1);
        DUE.is("3: second NUMBER", x.item(0, 1, 1), 45);
        DUE.is("3: no third", x.item(0, 2, 0), -1);
    }

    private static void entry(SettingsInLayers x, int layer, int key, int form, int n, int other) {
        DUE.is("13: form of " + layer + " " + key, x.entry(layer, key, 0), form);
        DUE.is("13: number of " + layer + " " + key, x.entry(layer, key, 1), n);
        DUE.is("13: key of " + layer + " " + key, x.entry(layer, key, 2), other);
    }

    private static void promise4() {
        SettingsInLayers x = new SettingsInLayers();
        DUE.is("4: ON", x.turns(0), 1);
        DUE.is("4: ON", x.turns(5), 1);
        DUE.is("4: both", x.count(1), 33);
        DUE.is("4: off", x.turns(0), 0);
        DUE.is("4: one", x.count(1), 32);
        DUE.is("4: ON again", x.turns(0), 1);
        DUE.is("4: nobody", x.turns(-1), -1);
        DUE.is("4: nobody", x.turns(6), -1);
        DUE.is("4: nobody", x.turns(Integer.MIN_VALUE), -1);
        DUE.is("4: nothing changes", x.count(1), 33);
        DUE.is("4: counted", x.count(11), 3);
    }

    private static void promise5() {
        SettingsInLayers x = new SettingsInLayers();
        DUE.is("5: old", x.kind(5, 5, 9), 0);
        DUE.is("5: old", x.kind(5, 3, 0), 59);
        DUE.is("5: old", x.kind(5, 0, 4), 30);
        DUE.is("5: old", x.kind(5, 1, 1), 4);
        DUE.is("5: another LAYER", x.kind(0, 1, 0), 0);
        DUE.is("5: -1 before -2", x.kind(6, 6, -1), -1);
        DUE.is("5: -1", x.kind(-1, 0, 0), -1);
        DUE.is("5: -2 before -4", x.kind(5, 6, -1), -2);
        DUE.is("5: -2 before -6", x.kind(5, -1, 10), -2);
        DUE.is("5: -4", x.kind(5, 5, -1), -4);
        DUE.is("5: -6", x.kind(5, 5, 10), -6);
        DUE.is("5: nothing changes", x.kind(5, 0, 0), 11);
    }

    private static void promise6() {
        SettingsInLayers x = new SettingsInLayers();
        DUE.is("6: old", x.manner(7, 4), 0);
        DUE.is("6: old", x.manner(7, 2), 4);
        DUE.is("6: another KEY", x.manner(0, 1), 0);
        DUE.is("6: -1 before -2", x.manner(8, 5), -1);
        DUE.is("6: -1", x.manner(-1, 0), -1);
        DUE.is("6: -2", x.manner(7, 5), -2);
        DUE.is("6: -2", x.manner(7, -1), -2);
        DUE.is("6: nothing changes", x.manner(7, 0), 2);
    }

    private static void promise7() {
        SettingsInLayers x = new SettingsInLayers();
        DUE.is("7: none there", x.sets(5, 7, 99), 0);
        DUE.is("7: one there", x.sets(5, 7, 0), 1);
        entry(x, 5, 7, 0, 0, -9);
        DUE.is("7: instead of a SUM", x.refers(5, 6, 2, 17) + 10 * x.sets(5, 6, 3), 10);
        entry(x, 5, 6, 0, 3, -9);
        DUE.is("7: instead of a LIST", x.adds(5, 5, 2, 17) + 10 * x.sets(5, 5, 3), 11);
        entry(x, 5, 5, 0, 3, -9);
        DUE.is("7: no ITEMS left", x.count(3), 0);
        DUE.is("7: -1 before -4", x.sets(6, 0, -1), -1);
        DUE.is("7: -1 before -6", x.sets(0, 8, 100), -1);
        DUE.is("7: -1", x.sets(-1, 0, 0), -1);
        DUE.is("7: -1", x.sets(0, -1, 0), -1);
        DUE.is("7: -4", x.sets(5, 7, -1), -4);
        DUE.is("7: -6", x.sets(5, 7, 100), -6);
        entry(x, 5, 7, 0, 0, -9);
        DUE.is("7: nothing changes", x.count(0), 3);
    }

    private static void promise8() {
        SettingsInLayers x = new SettingsInLayers();
        x.turns(2);
        DUE.is("8: none there", x.adds(2, 3, 9, 99), 1);
        DUE.is("8: behind", x.adds(2, 3, 0, 0), 2);
        DUE.is("8: -3 the ITEM KEY is there", x.adds(2, 3, 9, 1), -3);
        DUE.is("8: -3 before -4", x.adds(2, 3, 9, -1), -3);
        DUE.is("8: -3 before -6", x.adds(2, 3, 0, 100), -3);
        DUE.is("8: -4 ITEM KEY", x.adds(2, 3, -1, 100), -4);
        DUE.is("8: -4 NUMBER", x.adds(2, 3, 10, -1), -4);
        DUE.is("8: -6 ITEM KEY", x.adds(2, 3, 10, 0), -6);
        DUE.is("8: -6 NUMBER", x.adds(2, 3, 1, 100), -6);
        DUE.is("8: third", x.adds(2, 3, 5, 50), 3);
        DUE.is("8: fourth", x.adds(2, 3, 4, 51), 4);
        DUE.is("8: fifth", x.adds(2, 3, 3, 52), -6);
        DUE.is("8: -4 before a fifth", x.adds(2, 3, 3, -1), -4);
        DUE.is("8: -3 before a fifth", x.adds(2, 3, 4, 51), -3);
        DUE.is("8: in order", x.item(3, 0, 0), 9);
        DUE.is("8: in order", x.item(3, 3, 0), 4);
        DUE.is("8: NUMBER", x.item(3, 3, 1), 51);
        x.sets(1, 1, 5);
        x.gap(1, 2);
        x.refers(1, 3, 4, -1);
        x.refers(1, 4, 4, 0);
        for (int key = 1; key < 5; key++) {
            DUE.is("8: -3 no LIST", x.adds(1, key, 1, 1), -3);
            DUE.is("8: -3 before -4", x.adds(1, key, -1, -1), -3);
        }
        DUE.is("8: -1 before -3", x.adds(6, 1, 1, 1), -1);
        DUE.is("8: -1 before -4", x.adds(1, 8, -1, 1), -1);
        DUE.is("8: -1", x.adds(-1, 0, 0, 0), -1);
        DUE.is("8: -1", x.adds(0, -1, 0, 0), -1);
        DUE.is("8: -4 where none is", x.adds(0, 0, 0, -1), -4);
        DUE.is("8: -6 where none is", x.adds(0, 0, 10, 0), -6);
        DUE.is("8: nothing comes of these", x.entry(0, 0, 0), -1);
        Due.tell(x, "e0a[];");
        DUE.is("8: to an empty LIST", x.adds(0, 0, 7, 8), 1);
        entry(x, 0, 0, 1, 1, -9);
    }

    private static void promise9() {
        SettingsInLayers x = new SettingsInLayers();
        DUE.is("9: REFERENCE", x.refers(0, 0, 7, -1), 0);
        entry(x, 0, 0, 2, 0, 7);
        DUE.is("9: SUM", x.refers(0, 0, 6, 0), 1);
        entry(x, 0, 0, 3, 0, 6);
        DUE.is("9: SUM", x.refers(0, 0, 0, 99), 1);
        entry(x, 0, 0, 3, 99, 0);
        DUE.is("9: REFERENCE again", x.refers(0, 0, 7, -1), 1);
        entry(x, 0, 0, 2, 0, 7);
        DUE.is("9: -1", x.refers(6, 0, 0, -2), -1);
        DUE.is("9: -1", x.refers(-1, 0, 0, 0), -1);
        DUE.is("9: -1", x.refers(0, 8, 0, 100), -1);
        DUE.is("9: -1", x.refers(0, -1, 0, 0), -1);
        DUE.is("9: -1", x.refers(0, 0, 8, -2), -1);
        DUE.is("9: -1", x.refers(0, 0, -1, 0), -1);
        DUE.is("9: -4", x.refers(0, 0, 1, -2), -4);
        DUE.is("9: -6", x.refers(0, 0, 1, 100), -6);
        entry(x, 0, 0, 2, 0, 7);
    }

    private static void promise10() {
        SettingsInLayers x = new SettingsInLayers();
        DUE.is("10: none there", x.gap(5, 7), 0);
        DUE.is("10: one there", x.gap(5, 7), 1);
        entry(x, 5, 7, 4, 0, -9);
        x.refers(1, 1, 1, 55);
        DUE.is("10: one there", x.gap(1, 1), 1);
        entry(x, 1, 1, 4, 0, -9);
        DUE.is("10: -1", x.gap(6, 0), -1);
        DUE.is("10: -1", x.gap(-1, 0), -1);
        DUE.is("10: -1", x.gap(0, 8), -1);
        DUE.is("10: -1", x.gap(0, -1), -1);
        DUE.is("10: nothing changes", x.count(0), 2);
    }

    private static void promise11() {
        SettingsInLayers x = Due.told("e0a=01;e0b!;e0c[101];e1a=02;");
        DUE.is("11: two left", x.drops(0, 1), 2);
        DUE.is("11: there is none", x.drops(0, 1), -1);
        DUE.is("11: one left", x.drops(0, 0), 1);
        DUE.is("11: none left", x.drops(0, 2), 0);
        DUE.is("11: another LAYER's stays", x.entry(1, 0, 1), 2);
        DUE.is("11: ITEMS too", x.count(3), 0);
        DUE.is("11: a LIST begins anew", x.adds(0, 2, 1, 5), 1);
        DUE.is("11: -1", x.drops(6, 0), -1);
        DUE.is("11: -1", x.drops(-1, 0), -1);
        DUE.is("11: -1", x.drops(0, 8), -1);
        DUE.is("11: -1", x.drops(0, -1), -1);
        DUE.is("11: counted", x.count(11), 5);
    }

    private static void promise12Orders() {
        SettingsInLayers x = Due.told("l120;l217;l330;l449;l555;");
        DUE.is("12: USER of FIGURE 0", x.layer(1, 3), 111);
        Due.tell(x, "l125;");
        int[] ranks = {0, 16, 12, 113, -16, 20};
        int[] behind = {4, 2, 3, 0, 5, 1};
        for (int layer = 0; layer < 6; layer++) {
            DUE.is("12: RANK of " + layer, x.layer(layer, 3), 100 + ranks[layer]);
            DUE.is("12: behind " + layer, x.layer(layer, 5), behind[layer]);
        }
        alikeRanks();
    }

    /** A USER with FIGURE 4 of layer 1 has the RANK of FILE 5, and MASK 0 with 5 likewise. */
    private static void alikeRanks() {
        SettingsInLayers x = Due.told("l055;l124;l510;");
        DUE.is("12: MASK", x.layer(0, 3), 115);
        DUE.is("12: USER", x.layer(1, 3), 115);
        DUE.is("12: FILE", x.layer(5, 3), 115);
        DUE.is("12: least number", x.layer(0, 5), 2);
        DUE.is("12: next", x.layer(1, 5), 1);
        DUE.is("12: greatest number", x.layer(5, 5), 0);
        DUE.is("12: ahead of these", x.layer(4, 5), 3);
    }

    private static void promise12() {
        SettingsInLayers x = Due.told("o3;l354;e3a=01;e3h!;");
        DUE.is("12: ON", x.layer(3, 0), 1);
        DUE.is("12: off", x.layer(2, 0), 0);
        DUE.is("12: KIND", x.layer(3, 1), 5);
        DUE.is("12: FIGURE", x.layer(3, 2), 4);
        DUE.is("12: KEYS with ENTRIES", x.layer(3, 4), 129);
        DUE.is("12: -1 before -2", x.layer(6, 6), -1);
        DUE.is("12: -1", x.layer(-1, 0), -1);
        DUE.is("12: -2", x.layer(3, 6), -2);
        DUE.is("12: -2", x.layer(3, -1), -2);
    }

    private static void promise13() {
        SettingsInLayers x = Due.told("e0a=01;");
        DUE.is("13: -1 before -2", x.entry(0, 1, 3), -1);
        DUE.is("13: -1", x.entry(1, 0, 0), -1);
        DUE.is("13: -1", x.entry(6, 0, 0), -1);
        DUE.is("13: -1", x.entry(-1, 0, 0), -1);
        DUE.is("13: -1", x.entry(0, 8, 0), -1);
        DUE.is("13: -1", x.entry(0, -1, 0), -1);
        DUE.is("13: -2", x.entry(0, 0, 3), -2);
        DUE.is("13: -2", x.entry(0, 0, -1), -2);
        entry(x, 0, 0, 0, 1, -9);
    }
}
