/** Counts answers, prints those that are not due, and ends with exit code 1 if there was one. */
final class Due {
    private int checked;
    private int wrong;

    void is(String call, long got, long want) {
        checked++;
        if (got != want) {
            wrong++;
            System.out.println(call + " answered " + got + ", due is " + want);
        }
    }

    void fails(String why) {
        checked++;
        wrong++;
        System.out.println(why);
    }

    boolean isAllRight() {
        return wrong == 0;
    }

    void end() {
        System.out.println(checked + " checked, " + wrong + " wrong");
        if (wrong != 0 || checked == 0) {
            System.exit(1);
        }
    }

    /** A new object that was told the settings, in as many texts as they need. */
    static SettingsInLayers told(String text) {
        SettingsInLayers x = new SettingsInLayers();
        tell(x, text);
        return x;
    }

    static void tell(SettingsInLayers x, String text) {
        int from = 0;
        while (from < text.length()) {
            int end = text.length() - from <= 96 ? text.length() : text.lastIndexOf(';', from + 95) + 1;
            if (settings(x, text.substring(from, end)) < 0) {
                throw new IllegalArgumentException(text);
            }
            from = end;
        }
    }

    static int settings(SettingsInLayers x, String text) {
        for (int i = 0; i < text.length(); i++) {
            x.letter(text.charAt(i));
        }
        return x.settings();
    }
}
