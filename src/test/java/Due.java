/** Counts answers that are not the ones that are due. */
final class Due {
    private static int asked = 0;
    private static int wrong = 0;
    private static String test = "";

    private Due() {
    }

    /** From now on what is not as due is told of this test. */
    static void begin(String name) {
        test = name;
    }

    static int asked() {
        return asked;
    }

    static void due(String call, long got, long want) {
        asked++;
        if (got != want) {
            wrong++;
            System.out.println((test.isEmpty() ? "" : test + ": ") + call + " answered " + got + ", due is " + want);
        }
    }

    static void holds(String what, boolean is) {
        due(what, is ? 1 : 0, 1);
    }

    static void end() {
        System.out.println(asked + " answers asked, " + wrong + " not as due");
        if (wrong != 0 || asked == 0) {
            System.exit(1);
        }
    }

    /** Feeds a text and reads it. */
    static int tell(LuggageBelt x, String text) {
        for (int i = 0; i < text.length(); i++) {
            x.feed(text.charAt(i));
        }
        return x.hall();
    }

    static LuggageBelt belt(String text) {
        LuggageBelt x = new LuggageBelt();
        int read = tell(x, text);
        if (read < 1) {
            holds("the text of a test is read: " + text, false);
        }
        return x;
    }

    /** A belt some ticks later, 24 at a time. */
    static LuggageBelt belt(String text, int ticks) {
        LuggageBelt x = belt(text);
        go(x, ticks);
        return x;
    }

    static void go(LuggageBelt x, int ticks) {
        for (int left = ticks; left > 0; left -= 24) {
            x.ticks(Math.min(left, 24));
        }
    }
}
