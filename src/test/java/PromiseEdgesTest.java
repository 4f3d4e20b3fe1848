/**
 * The edges that the promises themselves name: the least and the greatest that is taken, what is
 * empty, what is full. A run or more for each promise; refused calls are RefusalsTest's, too.
 */
public final class PromiseEdgesTest {
    private static final Due DUE = new Due();
    private static final Runs RUNS = new Runs(DUE);

    private PromiseEdgesTest() {
    }

    public static void main(String[] args) {
        promises1To6();
        promises7To11();
        promises12And13();
        promises14To16();
        promises17To19();
        promises20To25();
        promises26To29();
        promises30To33();
        promises34And35();
        promise36();
        promise36Refusals();
        RUNS.eachPromiseIsQuoted();
        DUE.end();
    }

    private static void run(String sentence, String calls) {
        RUNS.run(sentence, calls);
    }

    private static void promises1To6() {
        run("All LAYERS off, DEFAULTS, without ENTRIES; all KEYS HIGHEST", """
            count 0 = 0; count 1 = 0; count 2 = 0; count 3 = 0; count 4 = 255; count 5 = 0; count 6 = 0
            count 11 = 0; count 12 = 0; count 13 = 0; count 14 = 0; count 15 = 0; count 16 = 0
            layer 0 1 = 0; layer 5 1 = 0; layer 0 2 = 0; layer 5 2 = 0; layer 0 4 = 0; layer 5 4 = 0
            manner 0 0 = 0; manner 7 0 = 0; since = -3; on = -3; clear = 0; settings = -1000
            """);
        run("A letter (0 .. 255) comes: how many there are. -4; -6 (255; 96, too)", """
            letter 0 = 1; letter 255 = 2; letter -1 = -4; letter 256 = -6; 94* letter 59 = 96; letter 59 = -6
            letter -1 = -4; count 6 = 96; count 14 = 2; count 16 = 2
            """);
        run("The letters become SETTINGS, and are no more (with a FAULT neither): how many STATEMENTS; the FAULT", """
            settings = -1000; count 6 = 0
            tell o0;o5; = 2
            count 6 = 0; count 1 = 33; letter 111; letter 54; settings = -1002; count 6 = 0; letter 59; count 6 = 1
            """);
        run("A LAYER is ON, or off: 1, 0. -1", """
            turns 0 = 1; turns 0 = 0; turns 5 = 1; turns 5 = 0; turns 6 = -1; turns -1 = -1; turns 5 = 1; count 1 = 32
            """);
        run("Its KIND, FIGURE: 10 times the KIND and the FIGURE that were. -1; -2; -4; -6 9", """
            kind 0 0 0 = 0; kind 0 5 9 = 0; kind 0 5 0 = 59; kind 0 0 9 = 50; kind 0 1 1 = 9; kind 5 0 0 = 0
            kind 0 0 10 = -6; kind 0 0 -1 = -4; kind 0 6 0 = -2; kind 6 0 0 = -1; kind 0 0 0 = 11
            """);
        run("Its MANNER: the old. -1; -2", """
            manner 0 4 = 0; manner 0 0 = 4; manner 7 4 = 0; manner 7 5 = -2; manner 7 -1 = -2; manner 8 0 = -1
            manner -1 0 = -1; manner 7 4 = 4; manner 0 0 = 0
            """);
    }

    private static void promises7To11() {
        run("ENTRY becomes the NUMBER: 1 if there was one, 0. -1 either; -4; -6 99", """
            sets 0 0 0 = 0; sets 5 7 99 = 0; sets 0 0 99 = 1; sets 5 7 0 = 1; sets 0 0 100 = -6; sets 0 0 -1 = -4
            entry 0 0 1 = 99; entry 5 7 1 = 0; drops 0 0; sets 0 0 1 = 0; gap 0 1; sets 0 1 5 = 1; entry 0 1 0 = 0
            """);
        run("(none there: it is a LIST of that alone)", """
            adds 5 7 9 99 = 1; adds 5 7 0 0 = 2; entry 5 7 0 = 1; drops 5 7 = 0; adds 5 7 5 5 = 1; entry 5 7 1 = 1
            drops 5 7 = 0; adds 5 7 10 0 = -6; adds 5 7 0 -1 = -4; entry 5 7 0 = -1; count 0 = 0
            tell e5h[]; = 1
            adds 5 7 1 1 = 1; adds 5 7 2 2 = 2; adds 5 7 3 3 = 3; adds 5 7 4 4 = 4; adds 5 7 6 6 = -6
            turns 5; item 7 0 0 = 1; item 7 3 0 = 4; item 7 3 1 = 4; item 7 4 0 = -1
            """);
        run("-3 the ENTRY is no LIST, the ITEM KEY is there; -4 (ITEM KEY, NUMBER); -6 (9; 99; a fifth)", """
            sets 0 0 1; adds 0 0 1 1 = -3; gap 0 0; adds 0 0 1 1 = -3; refers 0 0 1 -1; adds 0 0 1 1 = -3
            refers 0 0 1 0; adds 0 0 1 1 = -3; entry 0 0 0 = 3; adds 0 1 1 1 = 1; adds 0 1 1 2 = -3; adds 0 1 2 1 = 2
            count 13 = 5; count 3 = 2
            """);
        run("ENTRY becomes a REFERENCE (n -1), or a SUM: 1 if there was one, 0. -1 any; -4 below -1; -6 99", """
            refers 0 0 0 -1 = 0; entry 0 0 0 = 2; refers 0 0 7 0 = 1; entry 0 0 0 = 3; entry 0 0 1 = 0
            refers 5 7 7 99 = 0; entry 5 7 1 = 99; refers 5 7 0 -1 = 1; entry 5 7 0 = 2; entry 5 7 1 = 0
            refers 5 7 0 -2 = -4; refers 5 7 0 100 = -6; refers 5 7 8 0 = -1; entry 5 7 0 = 2; count 0 = 2
            """);
        run("ENTRY becomes a GAP: 1 if there was one, 0. -1 either", """
            gap 0 0 = 0; gap 5 7 = 0; gap 0 0 = 1; adds 0 1 1 1; gap 0 1 = 1; count 3 = 0; entry 0 1 1 = 0
            refers 0 2 5 55; gap 0 2 = 1; entry 0 2 1 = 0; entry 0 2 2 = -9; gap 6 0 = -1; gap 0 8 = -1; count 0 = 4
            """);
        run("The ENTRY is no more: how many the LAYER has. -1 either, there is none", """
            tell e5a=01;e5b=02;e5c!;e5d@a;e5e+a05;e5f[101];e5g[];e5h=03; = 8
            drops 5 0 = 7; drops 5 0 = -1; drops 5 7 = 6; drops 5 1 = 5; drops 5 2 = 4; drops 5 3 = 3; drops 5 4 = 2
            drops 5 5 = 1; count 3 = 0; drops 5 6 = 0; drops 5 6 = -1; layer 5 4 = 0; count 0 = 0; drops 0 0 = -1
            """);
    }

    private static void promises12And13() {
        run("3 RANK and 100, 4 KEYS with ENTRIES (bits), 5 how many LAYERS are behind it in ORDER", """
            turns 5; kind 5 4 9; gap 5 0; sets 5 7 1
            layer 5 0 = 1; layer 5 1 = 4; layer 5 2 = 9; layer 5 3 = 85; layer 5 4 = 129; layer 5 5 = 5
            layer 5 6 = -2; layer 5 -1 = -2; layer 5 MAX = -2; layer 0 5 = 4; layer 4 5 = 0; layer 6 0 = -1
            """);
        run("1 its NUMBER (of a NUMBER, a SUM; of a LIST how many ITEMS; of a REFERENCE, a GAP 0)", """
            tell e0a=42;e0b[105206307408];e0c@h;e0d+g99;e0e!;e0f[]; = 6
            entry 0 0 0 = 0; entry 0 0 1 = 42; entry 0 0 2 = -9; entry 0 1 0 = 1; entry 0 1 1 = 4; entry 0 1 2 = -9
            entry 0 2 0 = 2; entry 0 2 1 = 0; entry 0 2 2 = 7; entry 0 3 0 = 3; entry 0 3 1 = 99; entry 0 3 2 = 6
            entry 0 4 0 = 4; entry 0 4 1 = 0; entry 0 4 2 = -9; entry 0 5 0 = 1; entry 0 5 1 = 0; entry 0 5 2 = -9
            entry 0 0 3 = -2; entry 0 0 -1 = -2; entry 0 6 0 = -1; entry 0 6 3 = -1; count 12 = 2; count 11 = 2
            """);
    }

    private static void promises14To16() {
        run("RESOLVED: 0 0 a NUMBER, 1 a LIST, 2 a FAULT; 1 the NUMBER, how many ITEMS, the FAULT's code", """
            turns 0; turns 5; sets 0 0 7; sets 5 0 0; adds 5 1 1 1; value 0 0 = 0; value 0 1 = 0; value 0 2 = 2
            value 0 3 = 33; value 1 0 = 1; value 1 1 = 1; value 1 2 = 1; value 1 3 = 32; value 7 0 = 2; value 7 1 = 1
            value 7 2 = 0; value 7 3 = 0; value 0 4 = -2; value 0 -1 = -2; value 8 0 = -1; value -1 4 = -1
            """);
        run("The i-th ITEM of the LIST: ITEM KEY (what 0), NUMBER (1), SOURCE (2). -1 (no LIST, too); -2", """
            turns 5; adds 5 7 9 99; item 7 0 0 = 9; item 7 0 1 = 99; item 7 0 2 = 5; item 7 0 3 = -2; item 7 0 -1 = -2
            item 7 1 0 = -1; item 7 -1 0 = -1; item 7 MAX 0 = -1; item 7 MIN 0 = -1; item 7 1 3 = -1
            sets 5 0 1; item 0 0 0 = -1; item 1 0 0 = -1; item 8 0 0 = -1; drops 5 7
            tell e5h[]; = 1
            item 7 0 0 = -1; count 11 = 9; count 12 = 2
            """);
        run("Of its FAULT (k 0), the CAUSE (1), and so on: code (what 0), KEY (1). -1 (none such, too); -2", """
            fault 7 0 0 = 1; fault 7 0 1 = 7; fault 7 1 0 = -1; fault 7 0 2 = -2; fault 7 0 -1 = -2; fault 7 -1 0 = -1
            turns 0; refers 0 0 7 -1; fault 0 0 0 = 5; fault 0 1 0 = 1; fault 0 1 1 = 7; fault 0 2 0 = -1
            fault 0 MAX 0 = -1; fault 0 MIN 0 = -1; fault 8 0 0 = -1; sets 0 0 1; fault 0 0 0 = -1; fault 0 0 2 = -1
            """);
    }

    private static void promises17To19() {
        run("SOURCES (what 0), DEEP SOURCES (1), bits. -1; -3 a FAULT; -2", """
            sources 0 0 = -3; sources 0 2 = -3; turns 0; turns 5; sets 5 0 1; refers 0 7 0 -1; sources 0 0 = 32
            sources 0 1 = 32; sources 7 0 = 1; sources 7 1 = 33; sources 7 2 = -2; sources 7 -1 = -2; sources 8 0 = -1
            sources -1 2 = -1; count 11 = 2; count 12 = 2; count 13 = 2
            """);
        run("USES (what 0), USED (1), bits. -1; -2", """
            turns 0; refers 0 0 7 -1; uses 0 0 = 128; uses 0 1 = 0; uses 7 0 = 0; uses 7 1 = 1; uses 0 2 = -2
            uses 0 -1 = -2; uses 8 0 = -1; uses -1 2 = -1; count 11 = 2; count 12 = 2
            """);
        run("IN CYCLES (what 0, bits), WHOLE ones (1, bits), those with NUMBERS (2, bits). -2", """
            all 0 = 0; all 1 = 0; all 2 = 0; all 3 = -2; all -1 = -2; all MIN = -2; all MAX = -2; turns 0
            tell e0a@a;e0b=00;e0c[];e0d@b;e0e@c;e0f+b00;e0g+c00;e0h@h; = 8
            all 0 = 129; all 1 = 62; all 2 = 42; count 4 = 193; count 12 = 4
            """);
    }

    private static void promises20To25() {
        run("HIDDEN (bits). -1", """
            hidden 8 = -1; hidden -1 = -1; hidden 0 = 0; hidden 7 = 0
            tell e0h=00;e1h=00;e2h=00;e3h=00;e4h=00;e5h=00;o0;o5; = 8
            hidden 7 = 63; hidden 0 = 0; turns 0; hidden 7 = 31; count 0 = 6; count 11 = 2
            """);
        run("WITHOUT; -9. -1 either", """
            turns 0; turns 5; sets 0 7 0; sets 5 7 99; without 5 7 = 0; without 0 7 = 99; without 0 0 = -9
            without 6 0 = -1; without -1 0 = -1; without 0 8 = -1; without 0 -1 = -1; count 11 = 4; count 1 = 33
            """);
        run("TURN; -9. -1; -4; -6 999", """
            sets 5 7 0; turn 7 0 = 5; turn 7 999 = -9; turn 7 1000 = -6; turn 7 -1 = -4; turn 7 MIN = -4
            turn 7 MAX = -6; turn 8 0 = -1; turn -1 -1 = -1; sets 0 7 99; turn 7 99 = 0; turn 7 0 = 5; count 1 = 0
            """);
        run("SET; -9. -1 any; -4; -6 999", """
            set 0 0 0 0 = 0; set 5 7 7 99 = 99; set 0 0 0 999 = -9; set 0 0 0 1000 = -6; set 0 0 0 -1 = -4
            set 6 0 0 0 = -1; set -1 0 0 0 = -1; set 0 8 0 0 = -1; set 0 -1 0 0 = -1; set 0 0 8 0 = -1
            set 0 0 -1 -1 = -1; count 0 = 0; count 1 = 0; count 11 = 6; count 14 = 1; count 16 = 1
            """);
        run("BY MANNER (bits). -1; -4; -6 999", """
            turns 0; sets 0 7 0; byManner 7 0 = 15; byManner 7 999 = 0; byManner 7 1000 = -6; byManner 7 -1 = -4
            byManner 8 0 = -1; byManner -1 1000 = -1; byManner 0 0 = 0; manner 7 0 = 0
            """);
        run("FEWEST (bits)", """
            fewest = 0; turns 0; fewest = 0; sets 0 0 1; fewest = 1; gap 0 0; fewest = 0; refers 0 0 0 -1; fewest = 1
            refers 0 0 7 -1; fewest = 1; count 1 = 1
            """);
    }

    private static void promises26To29() {
        run("SINCE THE IMAGE (bits). -3 there is none", """
            since = -3; count 13 = 1; image = 0; since = 0; count 13 = 1; turns 0; sets 0 0 0; sets 0 7 0; since = 129
            """);
        run("MISSING LAYERS, part 0 above, 1 below the line. Refused as told: -1; -4 (v; t below 2); -6 (999; 20); -2", """
            turns 0; sets 0 0 0; missing 0 0 2 0 = 1; missing 0 0 2 1 = 2; missing 0 0 20 0 = 19
            missing 0 0 20 1 = 20; missing 0 999 2 0 = 0; missing 0 999 2 1 = 1; missing 0 0 1 0 = 4000000000000000004
            missing 0 0 21 0 = 4000000000000000006; missing 0 1000 2 0 = 4000000000000000006
            missing 0 -1 2 0 = 4000000000000000004; missing 0 0 2 -1 = 4000000000000000002
            missing 0 0 2 2 = 4000000000000000002; missing -1 0 2 0 = 4000000000000000001
            missing 0 0 MIN 0 = 4000000000000000004; missing 0 0 MAX 0 = 4000000000000000006
            """);
        run("MEAN. Refused as told: -2", """
            mean 0 = 0; mean 1 = 1; mean -1 = 4000000000000000002; mean 2 = 4000000000000000002
            mean MAX = 4000000000000000002; turns 0; sets 0 7 99; mean 0 = 99; mean 1 = 1; count 12 = 3
            """);
        run("WHAT KIND of a LAYER by the ROW (it stays): KINDS (what 0, bits), FIGURES (1). -1; -2", """
            whatIs 0 0 = 63; whatIs 5 1 = 1023; whatIs 6 0 = -1; whatIs -1 2 = -1; whatIs 0 2 = -2; whatIs 0 -1 = -2
            row 0; row 100; whatIs 0 0 = 0; whatIs 0 1 = 0; count 5 = 2; clear = 2; count 11 = 2; count 12 = 2
            """);
    }

    private static void promises30To33() {
        run("A number more of the ROW (0 .. 100): how many. -4; -6 (100; 8, too)", """
            row 0 = 1; row 100 = 2; row -1 = -4; row 101 = -6; row MIN = -4; row MAX = -6; count 5 = 2; 5* row 50 = 7
            row 0 = 8; row 0 = -6; row -1 = -4; row 101 = -6; count 5 = 8; count 14 = 3; count 16 = 4; clear = 8
            row 0 = 1
            """);
        run("JUDGED; -9 (whichever it answers, the ROW has none then)", """
            judge = -9; row 100; judge = -9; count 5 = 0; row 0; judge = 0; count 5 = 0; judge = -9
            """);
        run("The ROW has none then: how many it had", """
            clear = 0; row 0; clear = 1; clear = 0; 8* row 0 = 8; clear = 8; count 5 = 0; 8* row 1 = 8
            """);
        run("LOTS: NUMBERS (what 0), FAULTS (1). -4; -6 20; -2", """
            lots 1 0 0 = 359; lots 20 0 1 = 96; lots 0 0 0 = -4; lots 21 0 0 = -6; lots 1 0 2 = -2; lots 1 0 -1 = -2
            lots MIN 0 0 = -4; lots MAX 0 0 = -6; count 12 = 2; count 14 = 2; count 16 = 2; count 0 = 0
            """);
    }

    private static void promises34And35() {
        StringBuilder every = new StringBuilder();
        for (int layer = 0; layer < 6; layer++) {
            for (int key = 0; key < 8; key++) {
                every.append("sets ").append(layer).append(' ').append(key).append(" 9\n");
            }
        }
        run("THE IMAGE is taken: how many ENTRIES there are", """
            image = 0; on = 0
            """ + every + """
            image = 48; drops 0 0 = 7; drops 5 7 = 7; count 0 = 46; on = 48; count 0 = 48; entry 5 7 1 = 9
            """);
        run("ON from it: how many ENTRIES there are. -3 there is none", """
            on = -3; count 13 = 1; sets 0 0 1; on = -3; count 0 = 1; image = 1; drops 0 0; on = 1; count 13 = 2
            """);
    }

    private static void promise36() {
        run("0 ENTRIES, 1 LAYERS that are ON (bits), 2 KEYS with ENTRIES (bits), 3 ITEMS in all ENTRIES", """
            count 0 = 0; count 1 = 0; count 2 = 0; count 3 = 0; turns 5; turns 0; adds 0 0 1 1; adds 0 0 2 1
            adds 5 0 3 1; adds 4 7 1 1; sets 5 7 5; sets 4 6 4; refers 4 5 0 50
            count 0 = 6; count 1 = 33; count 2 = 225; count 3 = 4; sets 0 0 5; count 3 = 2; drops 4 7; count 3 = 1
            count 2 = 225; drops 5 7; count 2 = 97; count 0 = 4
            """);
        run("4 KEYS with FAULTS (bits), 5 in the ROW, 6 letters, 11 .. 16 REFUSALS -1 .. -6. -9 for another what", """
            count 4 = 255; turns 0; sets 0 0 0; count 4 = 254; count 5 = 0; row 0; count 5 = 1; count 6 = 0
            letter 0; count 6 = 1; count 7 = -9; count 8 = -9; count 9 = -9; count 10 = -9; count 17 = -9
            count -1 = -9; count -9 = -9; count MIN = -9; count MAX = -9; count 11 = 0; count 16 = 0
            """);
    }

    private static void promise36Refusals() {
        run("11 .. 16 REFUSALS -1 .. -6", """
            turns 6; count 11 = 1; count 12 = 0; kind 0 6 0; kind 0 6 0; count 12 = 2; since; on; since
            count 13 = 3; count 14 = 0; letter -1; row -1; lots 0 0 0; sets 0 0 -1; count 14 = 4; count 15 = 0
            count 16 = 0; letter 256; row 101; lots 21 0 0; sets 0 0 100; kind 0 0 10; count 16 = 5
            count 11 = 1; count 12 = 2; count 13 = 3; count 14 = 4; count 15 = 0; image; on; count 13 = 3
            """);
    }
}
