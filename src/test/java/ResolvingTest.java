/** Promises 14 to 19, and what the terms say of resolving: offers, manners, faults, sources. */
public final class ResolvingTest {
    private static final Due DUE = new Due();
    private static final String ALL_ON = "o0;o1;o2;o3;o4;o5;";

    public static void main(String[] args) {
        offersInOrder();
        offersBehindGaps();
        offersOfWeakLayers();
        offersOfMasks();
        highestAndLowest();
        totals();
        greatest();
        keyed();
        references();
        sums();
        cycles();
        longOnes();
        faultsThatEndAMerge();
        promise14();
        promise15();
        promise16();
        promise17();
        promise17Deep();
        promise18();
        promise19();
        DUE.end();
    }

    private static void is(String call, long got, long want) {
        DUE.is(call, got, want);
    }

    private static void number(String why, SettingsInLayers x, int key, int n) {
        is(why + ": a NUMBER", x.value(key, 0), 0);
        is(why + ": the NUMBER", x.value(key, 1), n);
    }

    /** The codes and keys of all causes, as pairs. */
    private static void faults(String why, SettingsInLayers x, int key, int... pairs) {
        is(why + ": a FAULT", x.value(key, 0), 2);
        is(why + ": its code", x.value(key, 1), pairs[0]);
        for (int k = 0; k < pairs.length / 2; k++) {
            is(why + ": code " + k, x.fault(key, k, 0), pairs[2 * k]);
            is(why + ": KEY " + k, x.fault(key, k, 1), pairs[2 * k + 1]);
        }
        is(why + ": no more CAUSES", x.fault(key, pairs.length / 2, 0), -1);
    }

    /** The ITEM KEYS, NUMBERS and SOURCES, as threes. */
    private static void list(String why, SettingsInLayers x, int key, int... threes) {
        is(why + ": a LIST", x.value(key, 0), 1);
        is(why + ": how many ITEMS", x.value(key, 1), threes.length / 3);
        for (int i = 0; i < threes.length; i++) {
            is(why + ": of ITEM " + i / 3, x.item(key, i / 3, i % 3), threes[i]);
        }
        is(why + ": no more ITEMS", x.item(key, threes.length / 3, 0), -1);
    }

    private static void offers(String why, SettingsInLayers x, int key, int howMany, int bits) {
        is(why + ": how many OFFERS", x.value(key, 2), howMany);
        is(why + ": LAYERS of OFFERS", x.value(key, 3), bits);
    }

    private static void offersInOrder() {
        SettingsInLayers x = Due.told("e0a=10;e1a=11;e2a=12;e5a=15;");
        faults("all off", x, 0, 1, 0);
        offers("all off", x, 0, 0, 0);
        x.turns(1);
        number("one on", x, 0, 11);
        Due.tell(x, "o0;o5;o3;");
        number("by numbers", x, 0, 15);
        offers("by numbers", x, 0, 3, 35);
        x.kind(0, 1, 0);
        number("FILE ahead of DEFAULTS", x, 0, 10);
        x.kind(1, 2, 0);
        number("USER of alike RANK less", x, 0, 11);
        x.kind(0, 2, 2);
        number("USER with a greater FIGURE", x, 0, 10);
        x.kind(5, 3, 0);
        number("LOCKED", x, 0, 15);
        x.manner(0, 1);
        number("the least RANK", x, 0, 11);
        offers("all of them", x, 0, 3, 35);
    }

    private static void offersBehindGaps() {
        SettingsInLayers x = Due.told("o0;o1;o2;o3;e0a=10;e1a!;e2a=12;e3a=13;");
        offers("behind the GAP", x, 0, 2, 12);
        x.manner(0, 2);
        number("behind the GAP", x, 0, 25);
        x.gap(3, 0);
        offers("nothing behind", x, 0, 0, 0);
        faults("nothing behind", x, 0, 1, 0);
        x.turns(3);
        offers("the GAP is off", x, 0, 1, 4);
        x.turns(1);
        offers("no GAP at all", x, 0, 2, 5);
    }

    private static void offersOfWeakLayers() {
        SettingsInLayers x = Due.told("o0;o2;o4;l040;l240;e0a=10;e2a=12;e4a=14;ma2;");
        offers("weak give way", x, 0, 1, 16);
        x.turns(4);
        offers("the higher of weak ones alone", x, 0, 1, 4);
        x.turns(2);
        offers("the last weak one", x, 0, 1, 1);
        Due.tell(x, "o2;e2a!;");
        offers("a weak GAP hides, but does not beat", x, 0, 0, 0);
        Due.tell(x, "o4;e4a!;e2a=12;");
        offers("a GAP above", x, 0, 0, 0);
        Due.tell(x, "e4b=50;e0b=51;d4a;");
        offers("only of that KEY", x, 0, 1, 4);
        Due.tell(x, "l453;e4a=33;");
        offers("a MASK that counts", x, 0, 1, 16);
        Due.tell(x, "e4h=33;e0h=07;");
        offers("a MASK that does not", x, 7, 1, 1);
        Due.tell(x, "e4h!;l400;");
        offers("the weak one ahead of a GAP", x, 7, 0, 0);
    }

    private static void offersOfMasks() {
        SettingsInLayers x = Due.told("o1;o3;l352;e3a=01;e3c=03;e3d=04;e1d=09;e3h=05;");
        number("KEY 0", x, 0, 1);
        number("KEY of the FIGURE", x, 2, 3);
        number("beyond", x, 3, 9);
        offers("beyond", x, 3, 1, 2);
        faults("far beyond", x, 7, 1, 7);
        x.kind(3, 5, 9);
        number("all KEYS", x, 7, 5);
        x.kind(3, 5, 0);
        number("the first alone", x, 0, 1);
        faults("no other", x, 2, 1, 2);
        Due.tell(x, "e3d!;");
        offers("a GAP that does not count", x, 3, 1, 2);
    }

    private static void highestAndLowest() {
        SettingsInLayers x = Due.told("o0;o1;o2;e0a=10;e1a[105];e2a[306207];");
        list("HIGHEST", x, 0, 3, 6, 2, 2, 7, 2);
        x.manner(0, 1);
        number("LOWEST", x, 0, 10);
        x.turns(0);
        list("LOWEST", x, 0, 1, 5, 1);
        Due.tell(x, "e2a@h;");
        list("what is not taken is not RESOLVED", x, 0, 1, 5, 1);
        is("nor used", x.uses(0, 0), 0);
    }

    private static void totals() {
        SettingsInLayers x = Due.told("o0;o1;o2;ma2;e0a=10;e1a=99;e2a=00;");
        number("TOTAL", x, 0, 109);
        Due.tell(x, "e1a[];");
        faults("a LIST among them", x, 0, 3, 0);
        offers("even so", x, 0, 3, 7);
        Due.tell(x, "d0a;d2a;");
        faults("a LIST alone", x, 0, 3, 0);
        totalsTooBig();
    }

    /** b is 999 by twice 450 and 99: 450 is d, five times 90. */
    private static void totalsTooBig() {
        SettingsInLayers x = Due.told(ALL_ON + "md2;e0d=90;e1d=90;e2d=90;e3d=90;e4d=90;"
            + "mb2;e0b@d;e1b@d;e2b=99;ma2;e1a@b;e2a=01;e3a[];");
        number("a part", x, 3, 450);
        number("999", x, 1, 999);
        faults("BIG as soon as it is", x, 0, 4, 0);
        Due.tell(x, "e2a=00;");
        faults("999 is not too big, but a LIST comes", x, 0, 3, 0);
        Due.tell(x, "e3a=00;");
        number("999", x, 0, 999);
        Due.tell(x, "ma0;e5a+b00;");
        number("a SUM of 999", x, 0, 999);
        Due.tell(x, "e5a+b01;");
        faults("a SUM above 999", x, 0, 4, 0);
        Due.tell(x, "e5c@a;");
        faults("and what refers to it", x, 2, 5, 2, 4, 0);
    }

    private static void greatest() {
        SettingsInLayers x = Due.told("o0;o1;o2;o3;ma3;e0a=10;e1a=30;e2a=30;e3a=00;");
        number("GREATEST", x, 0, 30);
        is("of several the first", x.sources(0, 0), 2);
        Due.tell(x, "e3a[];");
        faults("a LIST among them", x, 0, 3, 0);
        Due.tell(x, "d0a;d1a;d2a;e3a=00;");
        number("0 alone", x, 0, 0);
        is("0 alone", x.sources(0, 0), 8);
    }

    private static void keyed() {
        SettingsInLayers x = Due.told("o0;o1;o2;ma4;e0a[101202];e1a[303104];e2a[205];");
        list("KEYED", x, 0, 1, 4, 1, 2, 5, 2, 3, 3, 1);
        is("all are taken", x.sources(0, 0), 7);
        Due.tell(x, "e1a=05;");
        faults("a NUMBER among them", x, 0, 3, 0);
        Due.tell(x, "e1a@b;e0b[404505];e1b[606101];");
        list("a REFERENCE to a HIGHEST", x, 0, 1, 1, 1, 2, 5, 2, 6, 6, 1);
        Due.tell(x, "e0a[];e1a[];e2a[];");
        list("nothing in it", x, 0);
        Due.tell(x, "o3;e0a[001102203304];e1a[405506607708];e2a[809910011];e3a[912];");
        list("all ten", x, 0, 0, 11, 2, 1, 2, 0, 2, 3, 0, 3, 4, 0, 4, 5, 1, 5, 6, 1, 6, 7, 1,
            7, 8, 1, 8, 9, 2, 9, 12, 3);
    }

    private static void references() {
        SettingsInLayers x = Due.told("o0;o1;e0a@b;e1b@c;e0c=42;");
        number("by way of others", x, 0, 42);
        Due.tell(x, "e0c[142];");
        list("a LIST, the LAYER that refers", x, 0, 1, 42, 0);
        list("likewise", x, 1, 1, 42, 1);
        Due.tell(x, "e0c!;");
        faults("nothing there", x, 0, 5, 0, 5, 1, 1, 2);
        offers("of its own", x, 0, 1, 1);
    }

    private static void sums() {
        SettingsInLayers x = Due.told("o0;e0a+b05;e0b+c99;e0c=42;e0d+e01;e0e[105];e0f+h00;e0g@d;");
        number("a SUM of a SUM", x, 0, 146);
        faults("a SUM of a LIST", x, 3, 3, 3);
        faults("a SUM of nothing", x, 5, 5, 5, 1, 7);
        faults("a REFERENCE to a FAULT", x, 6, 5, 6, 3, 3);
    }

    private static void cycles() {
        SettingsInLayers x = Due.told("o0;e0a@b;e0b+c01;e0c@d;e0d@e;e0e@f;e0f@g;e0g@h;e0h@a;");
        faults("all KEYS round", x, 0,
            5, 0, 5, 1, 5, 2, 5, 3, 5, 4, 5, 5, 5, 6, 5, 7, 2, 0);
        faults("all KEYS round", x, 7,
            5, 7, 5, 0, 5, 1, 5, 2, 5, 3, 5, 4, 5, 5, 5, 6, 2, 7);
        Due.tell(x, "e0h@h;");
        faults("into a small one", x, 0,
            5, 0, 5, 1, 5, 2, 5, 3, 5, 4, 5, 5, 5, 6, 5, 7, 2, 7);
        faults("of one", x, 7, 5, 7, 2, 7);
        Due.tell(x, "o1;ma2;e0a=05;e1a+c00;e0c@d;e0d=06;");
        number("a KEY twice is no CYCLE", x, 0, 11);
        Due.tell(x, "e0a@d;e1a@d;");
        number("a KEY twice is no CYCLE", x, 0, 12);
    }

    /** d is one resolved, c seven, b 43 of these: a is the first, so 60 in all. */
    private static SettingsInLayers sixty() {
        SettingsInLayers x = Due.told(ALL_ON + "ma2;mb2;mc2;e0d=01;");
        for (int layer = 0; layer < 6; layer++) {
            x.refers(layer, 1, 2, -1);
            x.refers(layer, 2, 3, -1);
        }
        Due.tell(x, "e0a@b;e1a@c;e2a@c;e3a@d;e4a@d;");
        return x;
    }

    private static void longOnes() {
        SettingsInLayers x = sixty();
        number("60 KEYS", x, 0, 36 + 6 + 6 + 1 + 1);
        Due.tell(x, "e5a@d;");
        faults("the 61st", x, 0, 5, 0, 6, 3);
        Due.tell(x, "e5a+h07;");
        faults("LONG before MISSING", x, 0, 5, 0, 6, 7);
        is("uses it, as far as it goes", x.uses(0, 0), 128 + 14);
        Due.tell(x, "e5a@a;");
        faults("LONG before CYCLE", x, 0, 5, 0, 6, 0);
        Due.tell(x, "e5a=07;");
        number("a NUMBER needs no KEY", x, 0, 57);
        Due.tell(x, "e5f@a;");
        faults("one more about it", x, 5, 5, 5, 5, 0, 6, 3);
        Due.tell(x, "e1a@b;");
        faults("deep in it", x, 0, 5, 0, 5, 1, 5, 2, 6, 3);
        number("for itself it is not LONG", x, 1, 36);
    }

    private static void faultsThatEndAMerge() {
        SettingsInLayers x = Due.told("o0;o1;o2;e0a@h;e1a[];e2a=01;");
        for (int manner = 2; manner < 5; manner++) {
            x.manner(0, manner);
            faults("the first FAULT ends it", x, 0, 5, 0, 1, 7);
        }
        Due.tell(x, "e0a[];e1a@h;");
        for (int manner = 2; manner < 4; manner++) {
            x.manner(0, manner);
            faults("WRONG as soon as it is MADE", x, 0, 3, 0);
            is("so no more is RESOLVED", x.uses(0, 0), 0);
        }
        x.manner(0, 4);
        faults("KEYED goes on", x, 0, 5, 0, 1, 7);
        Due.tell(x, "e0a=01;");
        faults("KEYED ends likewise", x, 0, 3, 0);
        is("KEYED ends likewise", x.uses(0, 0), 0);
    }

    private static void promise14() {
        SettingsInLayers x = Due.told("o0;o5;e0a=10;e5a=20;e0b[101];");
        number("14", x, 0, 20);
        list("14", x, 1, 1, 1, 0);
        faults("14", x, 2, 1, 2);
        offers("14", x, 0, 2, 33);
        is("14: -1 before -2", x.value(8, 4), -1);
        is("14: -1", x.value(-1, 0), -1);
        is("14: -2", x.value(0, 4), -2);
        is("14: -2", x.value(0, -1), -2);
        is("14: -2 of a FAULT", x.value(2, 4), -2);
    }

    private static void promise15() {
        SettingsInLayers x = Due.told("o0;o1;e0a=10;e0b[101902];e1c@b;");
        list("15", x, 1, 1, 1, 0, 9, 2, 0);
        list("15: SOURCE of a REFERENCE", x, 2, 1, 1, 1, 9, 2, 1);
        is("15: -1 before -2", x.item(8, 0, 3), -1);
        is("15: -1", x.item(-1, 0, 0), -1);
        is("15: -1 no LIST, before -2", x.item(0, 0, 3), -1);
        is("15: -1 a FAULT", x.item(3, 0, 0), -1);
        is("15: -1 no ITEM, before -2", x.item(1, 2, 3), -1);
        is("15: -1 no ITEM", x.item(1, -1, 0), -1);
        is("15: -1 no ITEM", x.item(1, Integer.MAX_VALUE, 0), -1);
        is("15: -2", x.item(1, 1, 3), -2);
        is("15: -2", x.item(1, 1, -1), -2);
    }

    private static void promise16() {
        SettingsInLayers x = Due.told("o0;e0a=10;e0b@c;");
        faults("16", x, 1, 5, 1, 1, 2);
        is("16: -1 before -2", x.fault(8, 0, 2), -1);
        is("16: -1", x.fault(-1, 0, 0), -1);
        is("16: -1 none, before -2", x.fault(0, 0, 2), -1);
        is("16: -1 none such", x.fault(1, 2, 0), -1);
        is("16: -1 none such", x.fault(1, -1, 0), -1);
        is("16: -1 none such", x.fault(1, Integer.MIN_VALUE, 0), -1);
        is("16: -2", x.fault(1, 1, 2), -2);
        is("16: -2", x.fault(1, 1, -1), -2);
    }

    private static void promise17() {
        SettingsInLayers x = Due.told("o0;o1;o2;o3;e0a=10;e1a=40;e2a=30;e3b@a;");
        int[] sources = {4, 1, 7, 2};
        for (int manner = 0; manner < 4; manner++) {
            x.manner(0, manner);
            is("17: MANNER " + manner, x.sources(0, 0), sources[manner]);
            is("17: DEEP, MANNER " + manner, x.sources(0, 1), sources[manner]);
            is("17: of what refers", x.sources(1, 0), 8);
            is("17: DEEP, of what refers", x.sources(1, 1), 8 | sources[manner]);
        }
        Due.tell(x, "ma4;e0a[101];e1a[];e2a[101];");
        is("17: KEYED, all", x.sources(0, 0), 7);
        is("17: DEEP, KEYED, all", x.sources(0, 1), 7);
        is("17: -1 before -3", x.sources(8, 0), -1);
        is("17: -1", x.sources(-1, 2), -1);
        is("17: -3", x.sources(2, 0), -3);
        is("17: -3 before -2", x.sources(2, 2), -3);
        is("17: -2", x.sources(0, 2), -2);
        is("17: -2", x.sources(0, -1), -2);
    }

    private static void promise17Deep() {
        SettingsInLayers x = Due.told(ALL_ON + "e0a+b01;e1a+c01;e2b=50;e3c=60;e4c=50;e5d=01;");
        is("17: what is not taken gives none", x.sources(0, 1), 2 | 16);
        x.manner(0, 3);
        is("17: GREATEST of alike ones", x.sources(0, 0), 1);
        is("17: GREATEST, the one's alone", x.sources(0, 1), 1 | 4);
        x.manner(2, 1);
        is("17: GREATEST, the other", x.sources(0, 0), 2);
        is("17: GREATEST, the other's alone", x.sources(0, 1), 2 | 8);
        x.manner(0, 2);
        is("17: TOTAL, all", x.sources(0, 0), 3);
        is("17: TOTAL, DEEP of all", x.sources(0, 1), 3 | 4 | 8);
        Due.tell(x, "ma4;e0a@b;e1a@c;e2b[101];e3c[202];");
        is("17: KEYED, all", x.sources(0, 0), 3);
        is("17: KEYED, DEEP of all", x.sources(0, 1), 3 | 4 | 8);
        Due.tell(x, "e5e@a;");
        is("17: by two ways", x.sources(4, 1), 32 | 3 | 4 | 8);
    }

    private static void promise18() {
        SettingsInLayers x = Due.told("o0;o1;ma3;e0a+b01;e1a@c;e0b@d;e0c=01;e0d=02;e0e@a;e0f@f;e0g@h;");
        is("18: of taken and others", x.uses(0, 0), 2 | 4 | 8);
        is("18: likewise", x.uses(1, 0), 8);
        is("18: of none", x.uses(2, 0), 0);
        is("18: deep", x.uses(4, 0), 1 | 2 | 4 | 8);
        is("18: not itself", x.uses(5, 0), 0);
        is("18: of a FAULT", x.uses(6, 0), 128);
        is("18: of nothing", x.uses(7, 0), 0);
        is("18: USED", x.uses(0, 1), 16);
        is("18: USED", x.uses(3, 1), 1 | 2 | 16);
        is("18: not by itself", x.uses(5, 1), 0);
        is("18: USED for a FAULT", x.uses(7, 1), 64);
        Due.tell(x, "ma2;e0a@h;");
        is("18: as far as it goes", x.uses(0, 0), 128);
        is("18: so it is not USED", x.uses(2, 1), 0);
        Due.tell(x, "e0h@a;");
        is("18: of a CYCLE, but it", x.uses(0, 0), 128);
        is("18: -1 before -2", x.uses(8, 2), -1);
        is("18: -1", x.uses(-1, 0), -1);
        is("18: -2", x.uses(0, 2), -2);
        is("18: -2", x.uses(0, -1), -2);
    }

    private static void promise19() {
        SettingsInLayers x = Due.told("o0;e0a@b;e0b@a;e0c@a;e0d@d;e0e=01;e0f[101];e0g@f;e0h+g01;");
        is("19: IN CYCLES", x.all(0), 1 | 2 | 8);
        is("19: WHOLE ones", x.all(1), 16 | 32 | 64);
        is("19: with NUMBERS", x.all(2), 16);
        x.manner(0, 4);
        is("19: IN CYCLES still", x.all(0), 1 | 2 | 8);
        Due.tell(x, "e0b=01;");
        is("19: WRONG is no CYCLE", x.all(0), 8);
        x.manner(0, 0);
        is("19: WHOLE ones", x.all(1), 255 & ~8 & ~128);
        is("19: with NUMBERS", x.all(2), 1 | 2 | 4 | 16);
        is("19: -2", x.all(3), -2);
        is("19: -2", x.all(-1), -2);
    }
}
