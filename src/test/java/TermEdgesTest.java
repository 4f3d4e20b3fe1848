/**
 * The edges that "Terms" names, ahead of "SETTINGS are told in letters": a run for each sentence,
 * on new objects.
 */
public final class TermEdgesTest {
    private static final Due DUE = new Due();
    private static final Runs RUNS = new Runs(DUE);
    private static final String ALL_ON = "turns 0; turns 1; turns 2; turns 3; turns 4; turns 5\n";

    private TermEdgesTest() {
    }

    public static void main(String[] args) {
        calls();
        layers();
        keys();
        entries();
        lists();
        manners();
        ranks();
        masks();
        weakOnes();
        orders();
        gaps();
        sixtyFirst();
        sixtyFirstIsAheadOfOthers();
        cycles();
        missing();
        highestAndLowest();
        totals();
        totalsEndAtTheFirstFault();
        greatest();
        keyed();
        keyedEndsAtTheFirstFault();
        sums();
        referencesAndCauses();
        sources();
        DUE.end();
    }

    private static void run(String sentence, String calls) {
        RUNS.run(sentence, calls);
    }

    private static void calls() {
        run("An object is used for at most 512 calls after it has been made", """
            510* turns 0 = 0; turns 5 = 1; count 1 = 32
            """);
        run("An object is used for at most 512 calls after it has been made", """
            511* turns 6 = -1; count 11 = 511
            """);
    }

    private static void layers() {
        run("LAYERS 0 .. 5", """
            turns 0 = 1; turns 5 = 1; count 1 = 33
            turns -1 = -1; turns 6 = -1; turns MIN = -1; turns MAX = -1
            count 1 = 33; count 11 = 4
            """);
        run("each ON or off (at first)", """
            layer 0 0 = 0; layer 5 0 = 0; count 1 = 0
            turns 5 = 1; layer 5 0 = 1; turns 5 = 0; layer 5 0 = 0; turns 0 = 1; layer 0 0 = 1
            """);
        run("of a KIND (DEFAULTS at first)", """
            layer 0 1 = 0; layer 5 1 = 0; kind 0 5 0 = 0; layer 0 1 = 5; kind 0 0 0 = 50; layer 0 1 = 0
            kind 0 6 0 = -2; kind 0 -1 0 = -2; layer 0 1 = 0; count 12 = 2
            """);
        run("with a FIGURE (0 .. 9; 0 at first)", """
            layer 0 2 = 0; layer 5 2 = 0; kind 5 0 9 = 0; layer 5 2 = 9; kind 5 0 0 = 9; layer 5 2 = 0
            kind 5 0 9 = 0; kind 5 0 -1 = -4; kind 5 0 10 = -6; layer 5 2 = 9
            count 14 = 1; count 16 = 1
            """);
    }

    private static void keys() {
        run("at most one for each KEY a .. h (0 .. 7)", """
            sets 0 0 1 = 0; sets 5 7 2 = 0; count 0 = 2
            gap 0 0 = 1; refers 5 7 0 -1 = 1; refers 5 7 0 5 = 1; sets 0 0 3 = 1; count 0 = 2
            tell e0a[];e5h!; = 2
            count 0 = 2; sets 0 8 1 = -1; sets 0 -1 1 = -1; sets 0 MIN 1 = -1; sets 0 MAX 1 = -1
            count 0 = 2; count 2 = 129; count 11 = 4
            """);
        StringBuilder every = new StringBuilder();
        for (int layer = 0; layer < 6; layer++) {
            for (int key = 0; key < 8; key++) {
                every.append("gap ").append(layer).append(' ').append(key).append(" = 0\n");
            }
            every.append("layer ").append(layer).append(" 4 = 255\n");
        }
        run("with ENTRIES: at most one for each KEY", every + "count 0 = 48; gap 5 7 = 1; count 0 = 48");
    }

    private static void entries() {
        run("a NUMBER (0 .. 99)", """
            turns 0; sets 0 0 0 = 0; value 0 0 = 0; value 0 1 = 0; sets 0 0 99 = 1; value 0 1 = 99
            sets 0 0 100 = -6; sets 0 0 -1 = -4; entry 0 0 1 = 99
            tell e0a=00; = 1
            entry 0 0 1 = 0; value 0 1 = 0
            tell e0a=99; = 1
            entry 0 0 1 = 99
            """);
        run("a REFERENCE to a KEY", """
            refers 0 0 0 -1 = 0; entry 0 0 0 = 2; entry 0 0 2 = 0; refers 0 0 7 -1 = 1; entry 0 0 2 = 7
            refers 0 0 8 -1 = -1; refers 0 0 -1 -1 = -1; entry 0 0 2 = 7; entry 0 0 1 = 0
            """);
        run("a SUM of a KEY and a NUMBER (0 .. 99)", """
            refers 0 0 7 0 = 0; entry 0 0 0 = 3; entry 0 0 1 = 0; entry 0 0 2 = 7
            refers 0 0 0 99 = 1; entry 0 0 0 = 3; entry 0 0 1 = 99; entry 0 0 2 = 0
            refers 0 0 1 100 = -6; refers 0 0 1 -2 = -4; entry 0 0 1 = 99; entry 0 0 2 = 0
            """);
        run("a GAP. MANNER", """
            turns 0; gap 0 0 = 0; entry 0 0 0 = 4; entry 0 0 1 = 0; entry 0 0 2 = -9; value 0 2 = 0
            """);
    }

    private static void lists() {
        run("a LIST of ITEMS (4 at most", """
            adds 0 0 1 1 = 1; adds 0 0 2 2 = 2; adds 0 0 3 3 = 3; adds 0 0 4 4 = 4; adds 0 0 5 5 = -6
            entry 0 0 0 = 1; entry 0 0 1 = 4; count 3 = 4; count 16 = 1
            tell e0b[101202303404]; = 1
            tell e0b[101202303404505]; = -2000
            entry 0 1 1 = 4; count 3 = 8
            """);
        run("each an ITEM KEY 0 .. 9", """
            turns 0; adds 0 0 0 5 = 1; adds 0 0 9 6 = 2; adds 0 0 -1 7 = -4; adds 0 0 10 7 = -6
            value 0 1 = 2; item 0 0 0 = 0; item 0 1 0 = 9; item 0 2 0 = -1
            """);
        run("none twice, and a NUMBER 0 .. 99)", """
            turns 0; adds 0 0 0 0 = 1; adds 0 0 1 99 = 2; adds 0 0 2 -1 = -4; adds 0 0 2 100 = -6
            adds 0 0 0 5 = -3; adds 0 0 1 99 = -3; value 0 1 = 2; item 0 0 1 = 0; item 0 1 1 = 99
            tell e0b[000199]; = 1
            item 1 0 1 = 0; item 1 1 1 = 99
            tell e0b[000199000]; = -2000
            tell e0b[000199188]; = -2000
            item 1 1 1 = 99; value 1 1 = 2
            """);
    }

    private static void manners() {
        run("MANNER of each KEY: 0 HIGHEST (at first); 1 LOWEST; 2 TOTAL; 3 GREATEST; 4 KEYED", """
            manner 0 4 = 0; manner 7 4 = 0; manner 0 5 = -2; manner 0 -1 = -2; manner 0 0 = 4; manner 7 4 = 4
            turns 0; turns 1; turns 2; sets 0 0 10; sets 1 0 30; sets 2 0 20
            value 0 1 = 20; manner 0 1 = 0; value 0 1 = 10; manner 0 2 = 1; value 0 1 = 60
            manner 0 3 = 2; value 0 1 = 30; manner 0 4 = 3; value 0 0 = 2; value 0 1 = 3
            """);
    }

    private static void ranks() {
        run("DEFAULTS its number", """
            layer 0 3 = 100; layer 5 3 = 105; kind 5 0 9 = 0; layer 5 3 = 105
            """);
        run("FILE 10 more", """
            kind 0 1 9 = 0; layer 0 3 = 110; kind 5 1 0 = 0; layer 5 3 = 115
            """);
        run("USER FIGURE more than a FILE", """
            kind 0 2 0 = 0; layer 0 3 = 110; kind 0 2 9 = 20; layer 0 3 = 119; kind 5 2 9 = 0; layer 5 3 = 124
            """);
        run("LOCKED 100 more than a FILE", """
            kind 0 3 9 = 0; layer 0 3 = 210; kind 5 3 0 = 0; layer 5 3 = 215
            """);
        run("WEAK 20 less than DEFAULTS", """
            kind 0 4 9 = 0; layer 0 3 = 80; kind 5 4 0 = 0; layer 5 3 = 85
            """);
        run("5 MASK under USER", """
            kind 0 5 0 = 0; layer 0 3 = 110; kind 0 5 9 = 50; layer 0 3 = 119; kind 5 5 9 = 0; layer 5 3 = 124
            """);
    }

    private static void masks() {
        run("MASK, as a USER, but only for KEYS 0 .. FIGURE", """
            kind 0 5 0; turns 0; sets 0 0 10; sets 0 1 11; sets 0 6 16; sets 0 7 17
            value 0 1 = 10; value 1 1 = 1; value 1 2 = 0; value 1 3 = 0; value 7 1 = 1; count 4 = 254
            kind 0 5 1 = 50; value 1 1 = 11; value 6 1 = 1
            kind 0 5 6 = 51; value 6 1 = 16; value 7 0 = 2; value 7 1 = 1
            kind 0 5 7 = 56; value 7 0 = 0; value 7 1 = 17; value 7 3 = 1
            kind 0 5 8 = 57; value 7 1 = 17; kind 0 5 9 = 58; value 7 1 = 17
            kind 0 2 0 = 59; value 7 1 = 17
            """);
    }

    private static void weakOnes() {
        String sentence = "WEAK only if no LAYER with a greater RANK that is ON and COUNTS"
            + " has an ENTRY for the KEY that is no GAP";
        run(sentence, """
            turns 5; kind 5 4 9; sets 5 0 50; sets 5 1 51; value 0 1 = 50; value 0 3 = 32
            sets 0 0 7; value 0 1 = 50; value 0 2 = 1
            turns 0 = 1; value 0 1 = 7; value 0 2 = 1; value 0 3 = 1; value 1 1 = 51
            manner 0 1; value 0 1 = 7; manner 0 2; value 0 1 = 7
            drops 0 0; value 0 1 = 50; sets 0 1 8; value 1 1 = 8
            kind 0 5 0; value 1 1 = 51; kind 0 5 1; value 1 1 = 8
            gap 0 1 = 1; value 1 2 = 0; value 1 1 = 1
            """);
        run(sentence, """
            turns 0; turns 1; kind 0 4 0; kind 1 4 0; sets 0 0 10; sets 1 0 11; manner 0 2
            value 0 2 = 1; value 0 3 = 2; value 0 1 = 11
            gap 1 0 = 1; value 0 2 = 0; gap 0 0; sets 1 0 11; value 0 1 = 11
            sets 0 0 10; drops 1 0; value 0 1 = 10
            turns 2; kind 2 4 0; sets 2 0 12; value 0 3 = 4; value 0 1 = 12
            """);
        run(sentence, """
            turns 0; turns 1; turns 2; kind 1 4 0; manner 0 2; sets 0 0 10; gap 1 0; sets 2 0 12
            value 0 1 = 22; value 0 3 = 5
            """);
    }

    private static void orders() {
        run("ORDER of LAYERS: by RANK, the least first, of alike ones by numbers", """
            layer 0 5 = 5; layer 5 5 = 0
            kind 0 2 5; kind 3 5 2; kind 5 1 9
            layer 0 3 = 115; layer 3 3 = 115; layer 5 3 = 115
            layer 1 5 = 5; layer 2 5 = 4; layer 4 5 = 3; layer 0 5 = 2; layer 3 5 = 1; layer 5 5 = 0
            kind 0 2 6; layer 0 5 = 0; layer 5 5 = 1; layer 3 5 = 2
            kind 0 2 4; layer 0 5 = 2; layer 3 5 = 1; layer 5 5 = 0
            """);
        run("HIGHER is behind in that", """
            turns 0; turns 1; sets 0 0 10; sets 1 0 11; value 0 1 = 11
            kind 0 2 1; kind 1 1 0; layer 0 5 = 1; layer 1 5 = 0; value 0 1 = 11
            kind 0 2 2; layer 0 5 = 0; layer 1 5 = 1; value 0 1 = 10
            kind 1 3 0; value 0 1 = 11; kind 0 3 9; value 0 1 = 11; kind 1 4 9; value 0 1 = 10
            """);
    }

    private static void gaps() {
        String sentence = "but only those behind the last GAP among them";
        run(sentence, """
            turns 0; turns 1; turns 2; manner 0 2; sets 0 0 10; sets 1 0 20; sets 2 0 30
            value 0 1 = 60; value 0 2 = 3; value 0 3 = 7
            gap 0 0; value 0 1 = 50; value 0 2 = 2; value 0 3 = 6
            gap 1 0; value 0 1 = 30; value 0 3 = 4; sets 0 0 10; value 0 1 = 30; value 0 3 = 4
            gap 2 0; value 0 0 = 2; value 0 1 = 1; value 0 2 = 0; value 0 3 = 0
            sets 1 0 20; value 0 2 = 0; turns 2 = 0; value 0 1 = 30; value 0 3 = 3
            """);
        run(sentence, """
            turns 0; turns 1; sets 0 3 10; gap 1 3; value 3 2 = 0; kind 1 5 2; value 3 1 = 10
            kind 1 5 3; value 3 2 = 0; kind 0 2 9; value 3 1 = 10
            """);
    }

    /** d is one key resolved, c seven, b 43, and a, which ends with 60 in all, is the first. */
    private static final String SIXTY = ALL_ON + """
        manner 0 2; manner 1 2; manner 2 2; sets 0 3 1
        refers 0 2 3 -1; refers 1 2 3 -1; refers 2 2 3 -1; refers 3 2 3 -1; refers 4 2 3 -1; refers 5 2 3 -1
        refers 0 1 2 -1; refers 1 1 2 -1; refers 2 1 2 -1; refers 3 1 2 -1; refers 4 1 2 -1; refers 5 1 2 -1
        refers 0 0 1 -1; refers 1 0 2 -1; refers 2 0 2 -1; refers 3 0 3 -1; refers 4 0 3 -1
        value 0 0 = 0; value 0 1 = 50; value 1 1 = 36
        """;

    private static void sixtyFirst() {
        String sentence = "the 61st KEY that is RESOLVED for the one that is asked for"
            + " (that is the 1st; each as often as it is): FAULT 6 (LONG)";
        run(sentence, SIXTY + """
            refers 5 0 3 -1; value 0 0 = 2; value 0 1 = 5; value 0 2 = 6
            fault 0 0 0 = 5; fault 0 0 1 = 0; fault 0 1 0 = 6; fault 0 1 1 = 3; fault 0 2 0 = -1
            value 1 1 = 36; count 4 = 241; all 1 = 14
            sets 5 0 9; value 0 1 = 59; adds 0 4 1 1; refers 1 4 0 -1; value 4 1 = 5
            fault 4 1 0 = 5; fault 4 1 1 = 0; fault 4 2 0 = 6; fault 4 2 1 = 3; fault 4 3 0 = -1
            """);
        run(sentence, SIXTY + """
            refers 5 0 3 0; value 0 1 = 5; fault 0 1 0 = 6; fault 0 1 1 = 3; uses 0 0 = 14
            drops 5 0; value 0 1 = 50; refers 0 4 0 -1; value 4 1 = 5
            fault 4 0 1 = 4; fault 4 1 0 = 5; fault 4 1 1 = 0; fault 4 2 0 = 6; fault 4 2 1 = 3
            fault 4 3 0 = -1; drops 4 0; value 4 1 = 49; uses 4 0 = 15
            """);
    }

    private static void sixtyFirstIsAheadOfOthers() {
        String sentence = "FAULT 6 (LONG); a KEY that is being RESOLVED already: FAULT 2 (CYCLE);"
            + " no OFFERS: FAULT 1 (MISSING)";
        run(sentence, SIXTY + """
            refers 5 0 0 -1; value 0 1 = 5; fault 0 1 0 = 6; fault 0 1 1 = 0; all 0 = 0
            refers 5 0 7 -1; fault 0 1 0 = 6; fault 0 1 1 = 7; uses 0 0 = 142; uses 7 1 = 1
            drops 5 0; refers 4 0 0 -1; fault 0 1 0 = 2; fault 0 1 1 = 0; all 0 = 1
            refers 4 0 7 5; fault 0 1 0 = 1; fault 0 1 1 = 7
            """);
    }

    private static void cycles() {
        run("a KEY that is being RESOLVED already: FAULT 2 (CYCLE)", """
            turns 0; refers 0 0 0 -1; value 0 1 = 5; fault 0 0 1 = 0; fault 0 1 0 = 2; fault 0 1 1 = 0
            fault 0 2 0 = -1; refers 0 0 0 5; fault 0 1 0 = 2
            """);
        run("a KEY that is being RESOLVED already: FAULT 2 (CYCLE)", """
            turns 0
            tell e0a@b;e0b@c;e0c@d;e0d@e;e0e@f;e0f@g;e0g@h;e0h@a; = 8
            fault 0 7 0 = 5; fault 0 7 1 = 7; fault 0 8 0 = 2; fault 0 8 1 = 0; fault 0 9 0 = -1
            fault 7 7 0 = 5; fault 7 7 1 = 6; fault 7 8 0 = 2; fault 7 8 1 = 7; fault 7 9 0 = -1
            all 0 = 255; sets 0 7 5; all 0 = 0; value 0 1 = 5; value 0 0 = 0
            """);
        run("a KEY that is being RESOLVED already", """
            turns 0; turns 1; manner 0 2; refers 0 0 1 -1; refers 1 0 1 1; sets 0 1 20; value 0 1 = 41
            """);
        run("(of a CYCLE: the KEY that is being RESOLVED already)", """
            turns 0; refers 0 0 1 -1; refers 0 1 2 -1; refers 0 2 1 -1
            fault 0 2 0 = 5; fault 0 2 1 = 2; fault 0 3 0 = 2; fault 0 3 1 = 1; fault 0 4 0 = -1; all 0 = 6
            """);
    }

    private static void missing() {
        run("no OFFERS: FAULT 1 (MISSING)", """
            value 0 0 = 2; value 0 1 = 1; value 0 2 = 0; value 0 3 = 0; fault 0 0 1 = 0; fault 0 1 0 = -1
            sets 0 7 5; value 7 1 = 1; fault 7 0 1 = 7; turns 0; value 7 0 = 0; count 4 = 127
            """);
    }

    private static void highestAndLowest() {
        run("HIGHEST: the VALUE MADE of the last OFFER; LOWEST: of the first", """
            turns 2; sets 2 0 12; value 0 1 = 12; manner 0 1; value 0 1 = 12
            turns 0; turns 5; refers 0 0 7 -1; adds 5 0 3 4; value 0 1 = 5; uses 0 0 = 128
            manner 0 0; value 0 0 = 1; value 0 1 = 1; uses 0 0 = 0; item 0 0 2 = 5
            """);
    }

    /** d is 450, of five layers, and b is 999: twice d, and 99. */
    private static final String TO_999 = ALL_ON + """
        manner 1 2; manner 3 2; sets 0 3 90; sets 1 3 90; sets 2 3 90; sets 3 3 90; sets 4 3 90
        refers 0 1 3 -1; refers 1 1 3 -1; sets 2 1 99
        value 3 1 = 450; value 1 0 = 0; value 1 1 = 999
        """;

    private static void totals() {
        String sentence = "together (above 999: FAULT 4, BIG, as soon as it is)";
        run(sentence, TO_999 + """
            sets 3 1 0; value 1 1 = 999; sets 3 1 1; value 1 0 = 2; value 1 1 = 4
            fault 1 0 1 = 1; fault 1 1 0 = -1; sources 1 0 = -3; sets 2 1 98; value 1 1 = 999
            sources 1 0 = 15
            """);
        run("TOTAL: of all, in order", """
            turns 3; manner 0 2; sets 3 0 0; value 0 0 = 0; value 0 1 = 0; value 0 2 = 1; sources 0 0 = 8
            """);
    }

    private static void totalsEndAtTheFirstFault() {
        run("together (above 999: FAULT 4, BIG, as soon as it is)", TO_999 + """
            sets 3 1 1; adds 4 1 1 1; value 1 1 = 4; refers 4 1 7 -1; value 1 1 = 4; uses 1 0 = 8
            sets 3 1 0; value 1 1 = 5; fault 1 1 1 = 7; uses 1 0 = 136; drops 4 1; adds 4 1 1 1; value 1 1 = 3
            """);
        run("each must be a NUMBER (else FAULT 3, WRONG, as soon as it is MADE)", """
            turns 0; turns 1; turns 2; manner 0 2; adds 0 0 1 1; value 0 1 = 3; fault 0 0 1 = 0; fault 0 1 0 = -1
            refers 1 0 7 -1; value 0 1 = 3; uses 0 0 = 0; sets 0 0 5; value 0 1 = 5; uses 0 0 = 128
            adds 2 0 1 1; value 0 1 = 5; sets 1 0 5; value 0 1 = 3; sets 2 0 5; value 0 1 = 15
            """);
    }

    private static void greatest() {
        run("GREATEST: of all likewise NUMBERS, the greatest, of several the first", """
            turns 1; turns 2; turns 4; manner 0 3; sets 1 0 0; value 0 1 = 0; sources 0 0 = 2
            sets 2 0 0; sources 0 0 = 2; sets 4 0 99; value 0 1 = 99; sources 0 0 = 16
            sets 2 0 99; value 0 1 = 99; sources 0 0 = 4; sets 1 0 99; sources 0 0 = 2
            sets 2 0 98; sources 0 0 = 2; kind 1 2 0; sources 0 0 = 16
            """);
        run("GREATEST: of all likewise NUMBERS", """
            turns 0; turns 1; turns 2; manner 0 3; sets 0 0 9; sets 1 0 5; adds 2 0 1 1; value 0 1 = 3
            adds 1 1 1 1; refers 1 0 1 -1; refers 2 0 7 -1; value 0 1 = 3; uses 0 0 = 2; value 0 2 = 3
            sets 1 0 5; value 0 1 = 5; uses 0 0 = 128; sets 2 0 0; value 0 1 = 9
            """);
    }

    private static void keyed() {
        run("an ITEM KEY that is there takes the NUMBER in its place", """
            turns 0; turns 1; manner 0 4
            tell e0a[101202];e1a[303104]; = 2
            value 0 1 = 3; item 0 0 0 = 1; item 0 0 1 = 4; item 0 0 2 = 1; item 0 1 0 = 2; item 0 1 1 = 2
            item 0 1 2 = 0; item 0 2 0 = 3; item 0 2 1 = 3; item 0 2 2 = 1; item 0 3 0 = -1
            """);
        run("above 10 ITEMS: FAULT 4", ALL_ON + """
            manner 0 4
            tell e0a[001102203304];e1a[405506607708];e2a[809910]; = 3
            value 0 0 = 1; value 0 1 = 10; item 0 9 0 = 9; item 0 9 1 = 10; item 0 10 0 = -1
            tell e3a[911812713614];e4a[515416317218];e5a[119020]; = 3
            value 0 0 = 1; value 0 1 = 10; item 0 0 0 = 0; item 0 0 1 = 20; item 0 9 0 = 9; item 0 9 1 = 11
            """);
        run("ITEMS one LIST behind the other", """
            turns 0; turns 1; manner 0 4
            tell e0a[]; = 1
            value 0 0 = 1; value 0 1 = 0; item 0 0 0 = -1; sources 0 0 = 1; adds 1 0 9 99; value 0 1 = 1
            """);
    }

    private static void keyedEndsAtTheFirstFault() {
        run("each must be a LIST (else FAULT 3 likewise)", """
            turns 0; turns 1; turns 2; manner 0 4; sets 0 0 5; value 0 1 = 3; refers 1 0 7 -1; value 0 1 = 3
            uses 0 0 = 0; drops 0 0; adds 0 0 1 1; value 0 1 = 5; uses 0 0 = 128; drops 1 0
            sets 2 0 5; value 0 1 = 3; drops 2 0; value 0 0 = 1
            """);
    }

    private static void sums() {
        String sentence = "the KEY RESOLVED must be a NUMBER (else FAULT 3), and the NUMBER (above 999: FAULT 4)";
        run(sentence, TO_999 + """
            refers 0 0 1 0; value 0 1 = 999; refers 0 0 1 1; value 0 0 = 2; value 0 1 = 4; fault 0 0 1 = 0
            fault 0 1 0 = -1; refers 0 0 1 99; value 0 1 = 4; sets 2 1 0; value 0 1 = 999
            sets 2 1 1; value 0 1 = 4; refers 0 0 1 98; value 0 1 = 999
            """);
        run(sentence, """
            turns 0; adds 0 1 1 1; refers 0 0 1 0; value 0 1 = 3; fault 0 0 1 = 0; fault 0 1 0 = -1; uses 0 0 = 2
            refers 0 0 1 -1; value 0 0 = 1; drops 0 1; refers 0 0 1 0; value 0 1 = 5; fault 0 1 0 = 1
            sets 0 1 0; value 0 1 = 0
            """);
    }

    private static void referencesAndCauses() {
        run("FAULT 5 (REFERS) of the KEY for which it is RESOLVED, with that as CAUSE", """
            turns 0
            tell e0a@b;e0b+c00;e0c@d;e0d+e99;e0e@f;e0f+g50;e0g@h; = 7
            value 0 1 = 5; fault 0 0 1 = 0; fault 0 6 0 = 5; fault 0 6 1 = 6; fault 0 7 0 = 1; fault 0 7 1 = 7
            fault 0 8 0 = -1; fault 6 1 0 = 1; fault 6 2 0 = -1
            adds 0 7 1 1; value 6 0 = 1; fault 0 5 0 = 3; fault 0 5 1 = 5; fault 0 6 0 = -1
            """);
    }

    private static void sources() {
        run("HIGHEST, LOWEST, GREATEST the one; TOTAL, KEYED all", """
            turns 0; turns 1; turns 2; sets 0 0 1; sets 1 0 3; sets 2 0 2
            sources 0 0 = 4; manner 0 1; sources 0 0 = 1; manner 0 2; sources 0 0 = 7; manner 0 3; sources 0 0 = 2
            manner 0 4; sources 0 0 = -3
            tell e0a[101];e1a[];e2a[101]; = 3
            sources 0 0 = 7; sources 0 1 = 7; drops 0 0; sources 0 0 = 6
            """);
        run("DEEP SOURCES: and those of all KEYS RESOLVED for these, likewise", ALL_ON + """
            refers 0 0 1 1; refers 1 0 2 1; sets 2 1 50; sets 3 2 60; sets 4 2 70; sets 5 7 1
            sources 0 0 = 2; sources 0 1 = 18; manner 0 1; sources 0 1 = 5; manner 0 2; sources 0 1 = 23
            manner 0 3; sources 0 1 = 18; manner 2 2; sources 0 1 = 26; refers 5 6 0 -1; sources 6 1 = 58
            """);
        run("DEEP SOURCES: and those of all KEYS RESOLVED for these", ALL_ON + """
            manner 0 3; refers 0 0 1 0; sets 1 0 60; sets 5 1 50; sources 0 0 = 2; sources 0 1 = 2
            sets 5 1 60; sources 0 0 = 1; sources 0 1 = 33; sets 1 0 61; refers 2 0 2 0; sets 4 2 62; sets 3 0 62
            sources 0 0 = 4; sources 0 1 = 20; sets 3 0 63; sources 0 1 = 8; manner 0 1; sources 0 1 = 33
            manner 0 4; sources 0 1 = -3; manner 0 2; sources 0 1 = 63; manner 0 0; sources 0 1 = 8
            """);
        run("the LAYER whose OFFER gave its NUMBER (of a REFERENCE likewise that LAYER)", """
            turns 0; turns 1; turns 5; adds 0 1 3 4; refers 5 0 1 -1; item 0 0 2 = 5; item 1 0 2 = 0
            manner 0 4; adds 1 0 2 2; item 0 0 2 = 1; item 0 1 2 = 5; refers 0 0 1 -1; item 0 0 0 = 3
            item 0 0 2 = 5; item 0 1 2 = 1
            """);
    }
}
