/** The edges that the second part of "Terms" names: a run for each sentence, on new objects. */
public final class QuestionEdgesTest {
    private static final Due DUE = new Due();
    private static final Runs RUNS = new Runs(DUE);
    private static final String ALL_ON = "turns 0; turns 1; turns 2; turns 3; turns 4; turns 5\n";

    /** d is 450, of the layers 0 to 4, and b is 999, of the layers 0, 1 and 5. */
    private static final String TO_999 = ALL_ON + """
        manner 1 2; manner 3 2; sets 0 3 90; sets 1 3 90; sets 2 3 90; sets 3 3 90; sets 4 3 90
        refers 0 1 3 -1; refers 1 1 3 -1; sets 5 1 99; value 1 1 = 999
        """;

    private QuestionEdgesTest() {
    }

    public static void main(String[] args) {
        uses();
        inCycles();
        likeFaults();
        likeNumbersAndLists();
        hidden();
        without();
        turn();
        turnAtTheEdges();
        set();
        setAtTheEdges();
        byManner();
        fewest();
        since();
        missing();
        mean();
        whatKind();
        whatFigure();
        judged();
        lots();
        lotsBeginFromNow();
        wrapAround();
        image();
        imageAlone();
        longsAreRefused();
        nothingIsNoRefusal();
        DUE.end();
    }

    private static void run(String sentence, String calls) {
        RUNS.run(sentence, calls);
    }

    private static void uses() {
        run("all KEYS that are RESOLVED for it (bits; but it; as far as it goes, if it has a FAULT)", """
            turns 0; uses 0 0 = 0; uses 0 1 = 0; sets 0 0 5; uses 0 0 = 0
            refers 0 0 0 -1; uses 0 0 = 0; uses 0 1 = 0
            tell e0a@b;e0b@c;e0c@d;e0d@e;e0e@f;e0f@g;e0g@h;e0h@a; = 8
            uses 0 0 = 254; uses 7 0 = 127; uses 0 1 = 254; sets 0 7 0; uses 0 0 = 254; uses 7 1 = 127
            uses 7 0 = 0; uses 0 1 = 0; uses 6 0 = 128; uses 6 1 = 63
            """);
        run("as far as it goes, if it has a FAULT", """
            turns 0; turns 1; turns 2; manner 0 2; refers 0 0 1 -1; refers 1 0 7 -1; refers 2 0 2 -1
            sets 0 1 5; sets 0 2 5; uses 0 0 = 130; uses 2 1 = 0; sets 0 7 5; uses 0 0 = 134; uses 2 1 = 1
            adds 1 1 1 1; uses 0 0 = 2; manner 0 0; uses 0 0 = 4; manner 0 1; uses 0 0 = 2
            """);
    }

    private static void inCycles() {
        run("KEYS whose CAUSES end with a CYCLE of that very KEY", """
            turns 0; all 0 = 0; refers 0 7 7 0; all 0 = 128; refers 0 0 7 -1; all 0 = 128
            refers 0 7 0 -1; all 0 = 129; refers 0 1 0 -1; all 0 = 129; fault 1 3 0 = 2; fault 1 3 1 = 0
            drops 0 7; all 0 = 0; fault 0 1 0 = 1
            """);
        run("WHOLE ones: KEYS that RESOLVE", """
            all 1 = 0; all 2 = 0; turns 0; sets 0 0 0; all 1 = 1; all 2 = 1
            tell e0h[];e0g@h;e0b@i; = -1016
            tell e0h[];e0g@h;e0f+h00; = 3
            all 1 = 193; all 2 = 1; all 0 = 0; all 3 = -2; all -1 = -2
            """);
    }

    private static void likeFaults() {
        run("if both have a FAULT with alike codes (that of the FAULT, of its CAUSE, and so on)", """
            turns 0; turns 1; image
            refers 0 0 1 -1; since = 1; image; refers 0 0 2 -1; since = 0; refers 0 0 2 9; since = 0
            refers 0 2 3 -1; since = 5; refers 0 0 3 -1; since = 4; refers 0 0 0 -1; since = 5
            drops 0 0; since = 5; refers 0 0 7 -1; since = 4; adds 0 7 1 1; since = 133; drops 0 7; since = 4
            """);
        run("two RESOLVED KEYS are alike", """
            turns 0; refers 0 0 1 -1; refers 0 1 2 -1; image; refers 0 1 1 -1; since = 3
            refers 0 1 2 -1; since = 0; adds 0 2 1 1; since = 7; refers 0 0 1 5; since = 7
            drops 0 2; since = 0
            """);
        run("if both have a FAULT with alike codes", """
            turns 0; turns 1; image; manner 0 2; adds 0 0 1 1; value 0 1 = 3; since = 1; image; drops 0 0; since = 1
            refers 0 0 1 -1; adds 0 1 1 1; since = 2; value 0 1 = 3; sets 0 1 1; image; refers 0 0 7 -1; since = 1
            """);
    }

    private static void likeNumbersAndLists() {
        run("or both NUMBERS are alike, or both LISTS, ITEM by ITEM", """
            turns 0; turns 1; sets 0 0 0; image = 1; sets 1 0 0; since = 0; sets 1 0 1; since = 1
            tell e1a[]; = 1
            since = 1; image; adds 1 0 1 5; since = 1; image; adds 0 1 1 5; refers 1 0 1 0; since = 3
            refers 1 0 1 -1; since = 2
            tell e0b[105206]; = 1
            image
            tell e0b[206105]; = 1
            since = 3
            tell e0b[105207]; = 1
            since = 3
            tell e0b[105306]; = 1
            since = 3
            tell e0b[104206]; = 1
            since = 3
            tell e0b[005206]; = 1
            since = 3
            tell e0b[105]; = 1
            since = 3
            tell e0b[105206300]; = 1
            since = 3
            tell e0b[105206]; = 1
            since = 0
            """);
        run("or both NUMBERS are alike, or both LISTS", """
            turns 0; sets 0 0 1; image
            tell e0a[101]; = 1
            since = 1; image
            tell e0a@b; = 1
            since = 1; image; sets 0 0 1; since = 1; drops 0 0; since = 1
            """);
    }

    private static void hidden() {
        run("without which (that ENTRY alone) the KEY is LIKE as it is", """
            hidden 0 = 0; sets 5 0 1; hidden 0 = 32; turns 5; hidden 0 = 0; sets 0 0 1; hidden 0 = 1
            turns 0; hidden 0 = 33; sets 0 0 2; hidden 0 = 1; manner 0 1; hidden 0 = 32; manner 0 2; hidden 0 = 0
            sets 5 0 0; hidden 0 = 32; gap 5 0; hidden 0 = 1; turns 0; hidden 0 = 33
            """);
        run("without which (that ENTRY alone)", """
            turns 0; turns 1; sets 0 0 5; sets 1 0 6; refers 1 1 0 -1; sets 0 1 6; hidden 0 = 1; hidden 1 = 3
            sets 0 1 5; hidden 1 = 1; count 0 = 4; entry 1 0 1 = 6; sets 2 0 9; sets 3 0 9; sets 4 0 9; sets 5 0 9
            hidden 0 = 61
            """);
    }

    private static void without() {
        run("WITHOUT a LAYER (off, or off already): the NUMBER of a KEY; -9 it has none", """
            without 0 0 = -9; turns 0; turns 5; sets 0 0 0; sets 5 0 99; without 5 0 = 0; without 0 0 = 99
            turns 5 = 0; without 5 0 = 0; without 0 0 = -9; without 3 0 = 0; adds 0 7 1 1; without 5 7 = -9
            refers 0 6 7 0; without 5 6 = -9; count 1 = 1; count 11 = 0
            """);
    }

    private static void turn() {
        run("turned ON or off, makes it the NUMBER v (it isn't now), of several the least; -9", """
            turn 0 0 = -9; sets 5 0 0; turn 0 0 = 5; sets 4 0 0; turn 0 0 = 4; turns 5; turn 0 0 = -9
            sets 4 0 7; turn 0 7 = -9; turn 0 0 = -9; kind 4 1 0; turn 0 7 = 4; turns 4; turn 0 7 = -9
            turn 0 0 = 4; sets 3 0 0; kind 3 3 0; turn 0 0 = 3; turns 3; turn 0 7 = 3; turns 3; count 1 = 48
            turn 0 99 = -9; count 1 = 48
            """);
        run("(it isn't now)", """
            turns 0; sets 0 0 5; sets 1 0 5; turn 0 5 = -9; turns 1; turn 0 5 = -9; sets 1 0 6; turn 0 5 = 1
            """);
    }

    private static void turnAtTheEdges() {
        run("TURN of a KEY to a NUMBER v", TO_999 + """
            turn 1 999 = -9; turn 1 900 = 5; turns 5 = 0; turn 1 999 = 5; turn 1 900 = -9; turn 1 0 = -9
            turn 7 0 = -9; sets 3 7 0; turn 7 0 = -9; turns 3 = 0; turn 7 0 = 3; turn 1 1000 = -6; turn 1 -1 = -4
            """);
    }

    private static void set() {
        run("which, as ENTRY of a LAYER (ON then) for a KEY, makes another (or the same) KEY the NUMBER v; -9", """
            set 5 7 7 0 = 0; set 5 7 7 99 = 99; set 5 7 7 100 = -9; set 0 7 6 0 = -9; count 0 = 0; count 1 = 0
            turns 0; refers 0 0 1 50; set 5 1 0 50 = 0; set 5 1 0 149 = 99; set 5 1 0 49 = -9; set 5 1 0 150 = -9
            set 5 0 0 50 = 50; sets 5 1 7; set 0 1 0 50 = 0; turns 5; set 0 1 0 50 = -9; set 0 1 0 57 = 0
            count 0 = 2; count 1 = 33; entry 5 1 1 = 7
            """);
        run("SET: the least NUMBER (0 .. 99)", """
            turns 0; turns 1; manner 0 3; sets 0 0 60; set 1 0 0 60 = 0; set 1 0 0 61 = 61; set 1 0 0 59 = -9
            set 1 1 0 60 = 0; set 0 0 0 5 = 5
            """);
    }

    private static void setAtTheEdges() {
        run("SET: the least NUMBER (0 .. 99)", TO_999 + """
            set 5 1 1 999 = 99; set 5 1 1 900 = 0; set 5 1 1 899 = -9; set 5 1 1 1000 = -6; set 5 1 1 -1 = -4
            set 4 3 1 999 = 90; set 2 1 1 999 = 0; value 1 1 = 999; refers 5 0 1 0; set 2 1 0 999 = 0
            """);
    }

    private static void byManner() {
        run("MANNERS (bits) by which a KEY is the NUMBER v", """
            byManner 0 0 = 0; turns 0; sets 0 0 0; byManner 0 0 = 15; byManner 0 1 = 0; turns 1; sets 1 0 99
            byManner 0 0 = 2; byManner 0 99 = 13; turns 2; sets 2 0 5; byManner 0 99 = 8; byManner 0 104 = 4
            byManner 0 5 = 1; manner 0 4 = 0; byManner 0 5 = 1; manner 0 0 = 4; adds 2 1 1 1; byManner 1 0 = 0
            """);
        run("MANNERS (bits) by which", TO_999 + """
            manner 1 0 = 2; byManner 1 999 = 4; byManner 1 99 = 1; byManner 1 450 = 10; manner 1 0 = 0
            byManner 1 1000 = -6; byManner 1 -1 = -4
            """);
    }

    private static void fewest() {
        String sentence = "the least number of LAYERS (bits, of several the least) that, ON alone,"
            + " make all KEYS LIKE they are now: these; -9 (never: all that are ON do)";
        run(sentence, """
            fewest = 0; turns 0; turns 5; fewest = 0; sets 5 0 1; fewest = 32; sets 0 0 1; fewest = 1
            sets 0 1 2; fewest = 1; sets 5 2 3; fewest = 33; sets 2 0 1; sets 2 1 2; sets 2 2 3; fewest = 4
            sets 1 0 1; sets 1 1 2; sets 1 2 3; fewest = 2; count 1 = 33
            """);
        run(sentence, ALL_ON + """
            tell e0a=01;e1b=01;e2c=01;e3d=01;e4e=01;e5f=01; = 6
            fewest = 63; count 1 = 63; drops 0 0; fewest = 62; refers 5 5 7 -1; refers 4 5 5 -1; fewest = 62
            """);
        run("of several the least) that, ON alone", """
            turns 0; turns 1; turns 2; turns 3; sets 0 0 1; sets 1 1 1; sets 2 0 1; sets 3 1 1; fewest = 3
            kind 0 4 0; fewest = 3; manner 0 2; fewest = 3; kind 0 0 0; fewest = 7; drops 3 1; fewest = 7
            drops 2 0; fewest = 3; manner 0 0; sets 3 0 1; fewest = 3; sets 0 0 2; fewest = 10
            """);
    }

    private static void since() {
        run("KEYS (bits) that are not LIKE they were as it was taken", """
            since = -3; image = 0; since = 0; sets 0 0 1; since = 0; turns 0; since = 1; sets 0 7 0; since = 129
            image = 2; since = 0; turns 0; since = 129; on = 2; since = 0; count 13 = 1
            tell e0a=02;e0b=02;e0c=02;e0d=02;e0e=02;e0f=02;e0g=02;e0h=02; = 8
            since = 255
            """);
    }

    private static void missing() {
        String sentence = "each of those that are ON, by itself, with odds 1 in t (2 .. 20) is off";
        run(sentence, TO_999 + """
            missing 1 999 2 0 = 1; missing 1 999 2 1 = 64; missing 1 999 20 0 = 47045881
            missing 1 999 20 1 = 64000000; missing 1 0 20 0 = 0; missing 1 0 20 1 = 1
            missing 1 99 20 0 = 19; missing 1 99 20 1 = 8000
            """);
        run(sentence, """
            missing 0 0 2 0 = 0; missing 0 0 2 1 = 1; turns 0; sets 0 0 0; missing 0 0 2 0 = 1
            missing 0 0 2 1 = 2; missing 0 0 20 0 = 19; missing 0 0 20 1 = 20; missing 0 1 20 1 = 1
            turns 0; missing 0 0 2 0 = 0; missing 0 0 2 1 = 1; turns 0; turns 1; sets 1 0 7
            missing 0 0 3 0 = 2; missing 0 0 3 1 = 9; missing 0 7 3 0 = 2; missing 0 7 3 1 = 3
            turns 5; missing 0 7 3 0 = 2; missing 0 7 3 1 = 3; sets 5 0 7; missing 0 7 3 0 = 8
            missing 0 7 3 1 = 9; missing 0 0 3 0 = 2; missing 0 0 3 1 = 27; count 1 = 35
            """);
    }

    private static void mean() {
        run("by how many these are: a fraction. Fractions in least terms (0 by 1, if nothing)", """
            mean 0 = 0; mean 1 = 1; turns 0; sets 0 0 0; mean 0 = 0; mean 1 = 1; sets 0 7 0; mean 0 = 0
            mean 1 = 1; sets 0 7 1; mean 0 = 1; mean 1 = 2; sets 0 0 1; mean 0 = 1; mean 1 = 1
            tell e0b=00;e0c=00;e0d=00;e0e=00;e0f=00;e0g=00;e0h=00; = 7
            mean 0 = 1; mean 1 = 8; sets 0 1 5; mean 0 = 3; mean 1 = 4; adds 0 2 1 1; mean 1 = 4; mean 0 = 3
            drops 0 2; adds 0 2 1 1; mean 0 = 6; mean 1 = 7; drops 0 3; mean 0 = 1; mean 1 = 1
            """);
    }

    private static void whatKind() {
        run("FIGURE as it is, all of it is so (of none all is so)", """
            whatIs 0 0 = 63; whatIs 0 1 = 1023; row 100; whatIs 0 0 = 63; whatIs 0 1 = 1023; clear = 1
            row 0; whatIs 0 0 = 0; whatIs 5 1 = 0; clear; turns 0; turns 5; sets 0 0 10; sets 5 0 15
            row 10; whatIs 0 0 = 46; whatIs 5 0 = 16; whatIs 0 1 = 0; clear; row 15; whatIs 0 0 = 17; whatIs 5 0 = 47
            clear; kind 5 3 0; row 10; whatIs 0 0 = 0; clear; row 15; whatIs 0 0 = 63; layer 0 1 = 0; layer 5 1 = 3
            """);
        run("KINDS (bits) by which", """
            turns 0; turns 1; sets 1 6 1; sets 1 7 2; kind 1 0 6
            row 100; row 100; row 100; row 100; row 100; row 100; row 1; whatIs 1 0 = 63
            row 2 = 8; whatIs 1 0 = 31; clear = 8
            7* row 100 = 7
            whatIs 1 0 = 0; count 5 = 7; clear; 6* row 100; row 1; row 100 = 8; whatIs 1 0 = 32; whatIs 1 0 = 32
            """);
    }

    private static void whatFigure() {
        run("FIGURES (bits 0 .. 9) by which, KIND as it is", """
            turns 0; turns 5; sets 0 0 10; sets 5 0 15; kind 0 2 3; kind 5 2 3; row 10
            whatIs 0 1 = 512; clear; row 15; whatIs 0 1 = 511; layer 0 2 = 3; clear; row 10; whatIs 5 1 = 0
            kind 0 2 9; whatIs 5 1 = 15; whatIs 5 0 = 55
            """);
        run("FIGURES (bits 0 .. 9) by which, KIND as it is", """
            turns 0; kind 0 5 0; sets 0 0 1; sets 0 7 2; row 1; whatIs 0 1 = 1023; 6* row 100; row 2 = 8
            whatIs 0 1 = 896; clear; row 1; 7* row 100 = 8; whatIs 0 1 = 127; layer 0 2 = 0; count 5 = 8
            """);
    }

    private static void judged() {
        String sentence = "A ROW of numbers (0 .. 100; 8 at most): JUDGED: NUMBERS of KEYS a, b, .. likewise:"
            + " the first that is not so; -9";
        run(sentence, """
            judge = -9; row 0 = 1; row 100 = 2; row -1 = -4; row 101 = -6; count 5 = 2; judge = 0; count 5 = 0
            8* row 100 = 8
            row 100 = -6; row 0 = -6; row 101 = -6; row -1 = -4; count 5 = 8; judge = -9; row 5 = 1; clear = 1
            turns 0; sets 0 7 0
            8* row 100 = 8
            judge = 7
            7* row 100 = 7
            row 0 = 8; judge = -9; clear = 0; row 100 = 1; judge = -9
            """);
        run("(100: it has none)", """
            turns 0; sets 0 0 0; sets 0 1 99; adds 0 2 1 1; row 0; row 99; row 100; row 100; judge = -9
            row 0; row 98; row 99; judge = 1; row 0; row 99; row 0; row 0; judge = 2; row 0; row 99; row 100; row 0
            judge = 3; row 100; judge = 0; sets 0 0 99; refers 0 1 0 1; value 1 1 = 100; row 99; row 100; judge = 1
            refers 0 1 0 0; row 99; row 99; judge = -9
            """);
    }

    private static void lots() {
        run("n settings (1 .. 20)", """
            lots 0 0 0 = -4; lots -1 0 0 = -4; lots 21 0 0 = -6; lots 1 0 2 = -2; lots 1 0 -1 = -2
            lots 1 0 0 = 359; lots 1 0 1 = 4; lots 20 0 0 = 3154; lots 20 0 1 = 96
            lots 19 12345 0 = 3286; lots 19 12345 1 = 91; lots 2 12345 0 = 402; lots 2 12345 1 = 9
            lots 1 12345 0 = 224; lots 1 12345 1 = 4; count 0 = 0; count 1 = 0
            """);
    }

    private static void lotsBeginFromNow() {
        run("each from now: 4 times the LAYER of a DRAW below 6 is ON", """
            turns 5; kind 5 3 9; sets 5 0 1; sets 5 1 1; sets 5 2 1; sets 5 3 1; sets 5 4 1; sets 5 5 1
            sets 5 6 1; sets 5 7 1; manner 0 1; image; lots 20 7 1 = 0; lots 20 7 1 = 0; since = 0
            count 0 = 8; count 1 = 32; lots 1 7 2 = -2
            """);
        run("has as ENTRY for the KEY of a DRAW below 8 a NUMBER", """
            turns 0; turns 1; turns 2; turns 3; turns 4; turns 5
            tell e0a[];e1a[];e2a[];e3a[];e4a[];e5a[];ma4; = 7
            lots 1 0 1 = 3; lots 1 0 0 = 359; lots 1 1 1 = 6; lots 1 1 0 = 79; value 0 0 = 1; count 0 = 6
            """);
    }

    private static void wrapAround() {
        run("z becomes z times 1664525 and 1013904223 (an int); (z without its sign's bit by 256, cut) modulo m", """
            lots 1 MAX 0 = 241; lots 1 MAX 1 = 5; lots 1 MIN 0 = 359; lots 1 MIN 1 = 4
            lots 1 -1 0 = 241; lots 1 -1 1 = 5; lots 1 1 0 = 102; lots 1 1 1 = 5
            lots 2 MAX 0 = 478; lots 2 MAX 1 = 9; lots 20 MAX 0 = 3492; lots 20 MIN 0 = 3154; lots 20 -1 1 = 93
            lots 20 1 0 = 2771; lots 20 1 1 = 97
            """);
    }

    private static void image() {
        run("THE IMAGE: all that there is", """
            turns 0; turns 5; kind 0 2 9; kind 5 4 3; manner 0 2; manner 7 4; sets 0 0 1; sets 5 0 2
            adds 0 1 3 4; adds 0 1 5 6; refers 1 2 3 -1; refers 1 3 4 5; gap 1 4; image = 6
            turns 0; turns 1; kind 0 0 0; kind 5 3 9; manner 0 0; manner 7 1; drops 0 0; adds 0 1 7 8; sets 1 2 9
            gap 1 3; drops 1 4; sets 4 4 4; sets 5 0 9; on = 6
            count 0 = 6; count 1 = 33; count 3 = 2; layer 0 1 = 2; layer 0 2 = 9; layer 5 1 = 4; layer 5 2 = 3
            layer 0 5 = 0; layer 5 5 = 5; manner 0 2 = 2; manner 7 4 = 4; entry 0 0 1 = 1; entry 5 0 1 = 2
            entry 0 1 1 = 2; entry 1 2 0 = 2; entry 1 2 2 = 3; entry 1 3 0 = 3; entry 1 3 1 = 5; entry 1 3 2 = 4
            entry 1 4 0 = 4; entry 4 4 0 = -1; item 1 0 0 = 3; item 1 0 1 = 4; item 1 1 0 = 5; item 1 1 1 = 6
            """);
        run("but it, the ROW, letters, REFUSALS; ON from it all is as then", """
            row 1; letter 111; turns 6; image = 0; row 2; letter 48; turns 6; turns 7; sets 0 0 5; on = 0
            count 5 = 2; count 6 = 2; count 11 = 3; count 0 = 0; letter 59 = 3; settings = 1; count 1 = 1; judge = 0
            on = 0; count 1 = 0; on = 0
            """);
    }

    private static void imageAlone() {
        run("THE IMAGE is taken: how many ENTRIES there are", """
            on = -3; since = -3; image = 0; on = 0; sets 0 0 1; adds 0 1 1 1; image = 2; adds 0 1 2 2; sets 0 0 2
            on = 2; entry 0 0 1 = 1; entry 0 1 1 = 1; adds 0 1 9 9; sets 0 0 3; kind 0 5 5; manner 3 3; turns 2
            on = 2; entry 0 0 1 = 1; entry 0 1 1 = 1; layer 0 1 = 0; manner 3 0 = 0; count 1 = 0; drops 0 0
            image = 1; sets 0 0 4; on = 1; entry 0 0 0 = -1; count 13 = 2
            """);
    }

    private static void longsAreRefused() {
        run("Of longs 4000000000000000000 less them (-1 as 4000000000000000001)", """
            missing 8 0 2 0 = 4000000000000000001; missing 0 0 2 2 = 4000000000000000002
            missing 0 -1 2 0 = 4000000000000000004; missing 0 1000 2 0 = 4000000000000000006
            mean 2 = 4000000000000000002; count 11 = 1; count 12 = 2; count 14 = 1; count 16 = 1
            """);
    }

    private static void nothingIsNoRefusal() {
        run("-9 for another what", """
            count 7 = -9; count 10 = -9; count 17 = -9; count -1 = -9; count MIN = -9; count MAX = -9
            without 0 0 = -9; turn 0 5 = -9; set 0 0 1 5 = -9; judge = -9; sets 0 0 1; entry 0 0 2 = -9
            count 11 = 0; count 12 = 0; count 13 = 0; count 14 = 0; count 15 = 0; count 16 = 0
            """);
    }
}
