import java.util.ArrayList;
import java.util.List;

/** The edges that "SETTINGS are told in letters" names, and promises 2 and 3. */
public final class LetterEdgesTest {
    private static final Due DUE = new Due();
    private static final Runs RUNS = new Runs(DUE);

    private LetterEdgesTest() {
    }

    public static void main(String[] args) {
        letters();
        most();
        empty();
        layersAndKinds();
        onOrOff();
        numbers();
        listsInLetters();
        drops();
        manners();
        formBeforeTheRest();
        behindAllAheadOfIt();
        allOrNothing();
        nothingIsCounted();
        everyLetterAtEveryPlace();
        everyTextCutShort();
        everyLetterBehind();
        DUE.end();
    }

    private static void run(String sentence, String calls) {
        RUNS.run(sentence, calls);
    }

    private static void letters() {
        run("A letter (0 .. 255) comes: how many there are. -4; -6 (255; 96, too)", """
            letter 0 = 1; letter 255 = 2; letter -1 = -4; letter 256 = -6; letter MIN = -4; letter MAX = -6
            count 6 = 2; count 14 = 2; count 16 = 2; letter 128 = 3; 92* letter 59 = 95; letter 0 = 96
            letter 0 = -6; letter 255 = -6; letter 256 = -6; letter -1 = -4; count 6 = 96
            count 14 = 3; count 16 = 5; settings = -1000; count 6 = 0; letter 59 = 1
            """);
    }

    private static String statements(int howMany) {
        StringBuilder text = new StringBuilder();
        for (int i = 0; i < howMany; i++) {
            text.append("o5;");
        }
        return text.toString();
    }

    private static void most() {
        String sentence = "SETTINGS are told in letters, one by one (96 at most)";
        run(sentence, "tell " + statements(32) + " = 32\n count 1 = 0\n tell o5; = 1\n count 1 = 32");
        run(sentence, "tell " + statements(31) + "o0; = 32\n count 1 = 33");
        run(sentence, "tell " + statements(31) + "o6; = -2093\n count 1 = 0; count 6 = 0");
        run(sentence, "tell " + statements(31) + "o0x = -1095\n count 1 = 0");
        run(sentence, "tell " + statements(31) + "ma0 = -1096\n count 1 = 0");
        run(sentence, "tell " + statements(30) + "e0a=99 = -1096\n count 0 = 0");
        run(sentence, "tell " + statements(31) + "o0 = -1095\n count 1 = 0");
        run(sentence, "tell " + statements(29) + "e5h[123]; = 30\n entry 5 7 1 = 1");
    }

    private static void empty() {
        run("At least one STATEMENT", """
            settings = -1000; count 6 = 0; settings = -1000; letter 59 = 1; settings = -1000
            tell o0; = 1
            settings = -1000; count 1 = 1
            tell o0;; = -1003
            tell ;o0; = -1000
            count 1 = 1
            """);
        run("STATEMENTS, each with \";\" behind", """
            tell o0 = -1002
            tell o0o1; = -1002
            tell o0;o1 = -1005
            tell o0;o1o2; = -1005
            tell o0;o1; = 2
            """);
    }

    private static void layersAndKinds() {
        run("\"l\" a LAYER, KIND, FIGURE (a digit each)", """
            tell l000;l559; = 2
            layer 0 1 = 0; layer 0 2 = 0; layer 5 1 = 5; layer 5 2 = 9; layer 5 3 = 124; layer 5 5 = 0
            tell l509; = 1
            layer 5 1 = 0; layer 5 3 = 105
            tell l050; = 1
            layer 0 1 = 5; layer 0 3 = 110; layer 0 5 = 0
            """);
        run("(no such LAYER, KIND, MANNER", """
            tell l600; = -2000
            tell l900; = -2000
            tell l060; = -2000
            tell l090; = -2000
            tell l500;l660; = -2005
            tell o6; = -2000
            tell o9; = -2000
            tell e6a=00; = -2000
            tell e9h!; = -2000
            tell e6a[]; = -2000
            tell e6a@a; = -2000
            tell e6a+a00; = -2000
            tell d6a; = -2000
            tell d9h; = -2000
            tell ma5; = -2000
            tell mh9; = -2000
            count 0 = 0; count 1 = 0
            """);
    }

    private static void onOrOff() {
        run("\"o\" a LAYER (a digit): ON, or, told again, off", """
            tell o0; = 1
            count 1 = 1
            tell o0; = 1
            count 1 = 0
            tell o5;o0;o5;o5; = 4
            count 1 = 33; turns 5 = 0
            tell o5; = 1
            count 1 = 33
            """);
    }

    private static void numbers() {
        run("\"=\" and 2 digits (a NUMBER)", """
            tell e0a=00;e5h=99; = 2
            entry 0 0 0 = 0; entry 0 0 1 = 0; entry 0 0 2 = -9; entry 5 7 1 = 99
            tell e0a=09;e5h=90; = 2
            entry 0 0 1 = 9; entry 5 7 1 = 90
            tell e0a=9; = -1005
            tell e0a=100; = -1006
            """);
        run("\"@\" and a KEY (a REFERENCE)", """
            tell e0a@a;e5h@h; = 2
            entry 0 0 0 = 2; entry 0 0 1 = 0; entry 0 0 2 = 0; entry 5 7 2 = 7
            tell e0a@i; = -1004
            tell e0a@`; = -1004
            """);
        run("\"+\" and a KEY and 2 digits (a SUM)", """
            tell e0a+a00;e5h+h99; = 2
            entry 0 0 0 = 3; entry 0 0 1 = 0; entry 0 0 2 = 0; entry 5 7 0 = 3; entry 5 7 1 = 99; entry 5 7 2 = 7
            tell e0a+i00; = -1004
            tell e0a+a9; = -1006
            tell e0a+a999; = -1007
            """);
        run("or \"!\" (a GAP): the ENTRY is that", """
            tell e0a=42;e0a!; = 2
            entry 0 0 0 = 4; entry 0 0 1 = 0; entry 0 0 2 = -9
            tell e0a+b42;e0a=05; = 2
            entry 0 0 0 = 0; entry 0 0 1 = 5; entry 0 0 2 = -9
            tell e0a[105206];e0a@b; = 2
            entry 0 0 0 = 2; entry 0 0 1 = 0; entry 0 0 2 = 1; count 3 = 0; count 0 = 1
            """);
    }

    private static void listsInLetters() {
        run("ITEMS (a digit, 2 digits each; none too)", """
            turns 0
            tell e0a[]; = 1
            entry 0 0 0 = 1; entry 0 0 1 = 0; entry 0 0 2 = -9; value 0 0 = 1; value 0 1 = 0; count 3 = 0
            tell e0a[999]; = 1
            entry 0 0 1 = 1; item 0 0 0 = 9; item 0 0 1 = 99
            tell e0a[000]; = 1
            entry 0 0 1 = 1; item 0 0 0 = 0; item 0 0 1 = 0
            tell e0a[400399201102]; = 1
            entry 0 0 1 = 4; item 0 0 0 = 4; item 0 0 1 = 0; item 0 1 0 = 3; item 0 1 1 = 99
            item 0 2 0 = 2; item 0 2 1 = 1; item 0 3 0 = 1; item 0 3 1 = 2; item 0 4 0 = -1
            tell e0a[105]; = 1
            entry 0 0 1 = 1; count 3 = 1; item 0 1 0 = -1
            """);
        run("more than 4 ITEMS, an ITEM KEY twice", """
            tell e0a[000100200300]; = 1
            tell e0b[000100200300400]; = -2000
            tell e0b[000100200300400500600700800900]; = -2000
            tell e0b[500500]; = -2000
            tell e0b[100200300199]; = -2000
            tell e0b[100199200]; = -2000
            tell e0b[100199188]; = -2000
            tell e0b[100200199300]; = -2000
            tell e0b[900800900]; = -2000
            tell e1b[100200]; = 1
            tell e0b[500500];x = -1012
            tell e1b[500]; = 1
            tell e0b[100200300400500]; = -2000
            tell e1b=05;e1b[100200300400]; = 2
            tell o0;e0b[100200300100]; = -2003
            tell o0;e0b[100200300400100]; = -2003
            entry 0 1 0 = -1; entry 0 0 1 = 4; count 1 = 0
            """);
    }

    private static void drops() {
        run("\"d\" without ENTRY", """
            tell d0a; = -2000
            tell e0a=01;d0a; = 2
            tell d0a; = -2000
            tell e5h!; = 1
            tell d5h; = 1
            tell d5h; = -2000
            tell e1b=01; = 1
            tell d1a; = -2000
            tell d0b; = -2000
            count 0 = 1
            """);
    }

    private static void manners() {
        run("\"m\" a KEY, MANNER (a digit)", """
            tell ma4;mh4; = 2
            manner 0 4 = 4; manner 7 4 = 4
            tell ma0;mh5; = -2004
            manner 0 4 = 4
            tell ma0;mh1; = 2
            manner 0 0 = 0; manner 7 0 = 1
            """);
    }

    /** Kind 2 is looked for just where there is no kind 1 in all the text. */
    private static void formBeforeTheRest() {
        run("FAULT of the text: kind 1 the place of the first letter with which no SETTINGS can go on", """
            tell o6;x = -1003
            tell o6;l66 = -1006
            tell d0a;e0a=0 = -1009
            tell e0a[500500];o = -1013
            tell e0a[111222333444555 = -1019
            tell o6;o6; = -2000
            tell oo; = -1001
            tell e0a!x = -1004
            tell O0; = -1000
            tell L000; = -1000
            """);
        run("(the end, if something lacks): -1000 less the place", """
            tell l = -1001
            tell l0 = -1002
            tell l00 = -1003
            tell l000 = -1004
            tell e0a[105 = -1007
            tell e0a[105] = -1008
            tell o0;d = -1004
            """);
    }

    private static void behindAllAheadOfIt() {
        run("the first STATEMENT that, behind all ahead of it in the text, is not as it must be", """
            tell e0a=01;d0a;e0a!;d0a; = 4
            tell e0a=01;d0a;d0a;e0a!; = -2011
            tell d0a;e0a=01; = -2000
            tell o0;o6;o7; = -2003
            tell ma4;ma5;o6; = -2004
            count 0 = 0; count 1 = 0; manner 0 0 = 0; gap 0 0 = 0
            tell d0a;d0a; = -2004
            tell d0a; = 1
            """);
    }

    private static void allOrNothing() {
        run("Without FAULT all of it comes, with one nothing", """
            tell o0;l129;e0a=01;e1b[101];ma2;e2c@a; = 6
            count 0 = 3; count 1 = 1; count 3 = 1; layer 1 3 = 120; manner 0 2 = 2
            tell o0;o5;l155;e0a=99;e0a[505];e1b!;d2c;ma4;mh5; = -2040
            count 0 = 3; count 1 = 1; count 3 = 1; layer 1 1 = 2; layer 1 2 = 9; layer 1 5 = 0
            entry 0 0 0 = 0; entry 0 0 1 = 1; entry 1 1 0 = 1; entry 2 2 0 = 2; manner 0 2 = 2
            tell o0;o5;l155;e0a=99;e0a[505];e1b!;d2c;ma4;m = -1041
            count 0 = 3; count 1 = 1; count 3 = 1; layer 1 1 = 2; layer 1 2 = 9; layer 1 5 = 0
            entry 0 0 0 = 0; entry 0 0 1 = 1; entry 1 1 0 = 1; entry 2 2 0 = 2; manner 0 2 = 2
            turns 1; item 1 0 0 = 1; item 1 0 1 = 1
            """);
        run("The letters become SETTINGS, and are no more (with a FAULT neither)", """
            tell o0; = 1
            count 6 = 0; letter 111; settings = -1001; count 6 = 0
            tell o6; = -2000
            count 6 = 0; letter 111; letter 48; letter 59; settings = 1; count 1 = 0
            """);
    }

    private static void nothingIsCounted() {
        run("how many STATEMENTS; the FAULT (nothing is counted)", """
            settings = -1000
            tell x = -1000
            tell o6; = -2000
            tell o0 = -1002
            count 11 = 0; count 12 = 0; count 13 = 0; count 14 = 0; count 15 = 0; count 16 = 0
            """);
    }

    /** What may stand at each place of the statements below it. */
    private static final String[] FORMS = {
        "vLKD;", "vL;", "vLkeDD;", "vLke];", "vLkeiDDiDD];", "vLkek;", "vLkekDD;", "vLke;", "vLk;", "vkM;"};
    private static final String[] TEXTS = {
        "l123;", "o4;", "e3b=42;", "e3b[];", "e3b[105942];", "e3b@c;", "e3b+h17;", "e3b!;", "d0a;", "mc3;"};

    /** In words: L, K, M digits that are looked at behind the form, D any digit, k a key. */
    private static boolean mayStand(char place, int letter) {
        boolean isDigit = letter >= '0' && letter <= '9';
        switch (place) {
            case 'v': return "lodem".indexOf(letter) >= 0;
            case 'e': return "=[@+!".indexOf(letter) >= 0;
            case 'k': return letter >= 'a' && letter <= 'h';
            case 'i': return isDigit || letter == ']';
            case ';': return letter == ';';
            case ']': return isDigit || letter == ']';
            default: return isDigit;
        }
    }

    private static boolean isSo(char place, int letter) {
        int digit = letter - '0';
        return place == 'M' ? digit < 5 : place != 'L' && place != 'K' || digit < 6;
    }

    private static void everyLetterAtEveryPlace() {
        for (int form = 0; form < FORMS.length; form++) {
            for (int place = 0; place < FORMS[form].length(); place++) {
                for (int letter = 0; letter < 256; letter++) {
                    oneLetter(form, place, letter);
                }
            }
        }
    }

    /** The text stands behind another, which gives it an entry to be dropped. */
    private static void oneLetter(int form, int place, int letter) {
        String ahead = "e0a!;";
        StringBuilder text = new StringBuilder(TEXTS[form]);
        char kind = FORMS[form].charAt(place);
        boolean isAsTold = text.charAt(place) == letter;
        text.setCharAt(place, (char) letter);
        Called x = new Called();
        long got = Runs.answer(x, "tell " + ahead + text);
        String why = "3: letter " + letter + " at " + place + " of " + TEXTS[form];
        if (!mayStand(kind, letter)) {
            DUE.is(why, got, -1000 - ahead.length() - place);
        } else if (isAsTold) {
            DUE.is(why, got, 2);
        } else if ("LKMD".indexOf(kind) >= 0 && !text.toString().startsWith("d")) {
            DUE.is(why, got, isSo(kind, letter) ? 2 : -2000 - ahead.length());
        }
        DUE.is(why + ": letters are no more", x.answer("count", 6), 0);
        if (got < 0) {
            DUE.is(why + ": nothing comes", x.answer("count", 0), 0);
        }
    }

    private static void everyTextCutShort() {
        for (String text : TEXTS) {
            for (int length = 0; length < text.length(); length++) {
                Called x = new Called();
                long got = Runs.answer(x, "tell e0a!;" + text.substring(0, length));
                boolean isWhole = length == 0;
                DUE.is("3: " + length + " letters of " + text, got, isWhole ? 1 : -1005 - length);
                DUE.is("3: nothing comes of a part", x.answer("count", 0), isWhole ? 1 : 0);
            }
        }
    }

    /** Behind a statement just another one may begin. */
    private static void everyLetterBehind() {
        List<Integer> begin = new ArrayList<>();
        for (int letter = 0; letter < 256; letter++) {
            Called x = new Called();
            long got = Runs.answer(x, "tell o0;" + (char) letter);
            DUE.is("3: behind it letter " + letter, got, mayStand('v', letter) ? -1004 : -1003);
            if (got == -1004) {
                begin.add(letter);
            }
        }
        DUE.is("3: five statements", begin.size(), 5);
    }
}
