/** What the tests of the project share: counting what is not as due, and telling a text to an object. */
final class Check {
    private static int wrong = 0;
    private static int asked = 0;

    private Check() {
    }

    static void due(String what, long got, long want) {
        asked++;
        if (got != want) {
            wrong++;
            System.out.println(what + " answered " + got + ", due is " + want);
        }
    }

    static void due(String what, boolean got, boolean want) {
        due(what, got ? 1 : 0, want ? 1 : 0);
    }

    /** Feeds the text, filled up with blanks, and lets it be read. */
    static int tell(HalfCitizen x, String text) {
        feed(x, text);
        return x.text(text.length());
    }

    static int feed(HalfCitizen x, String text) {
        int has = 0;
        for (int i = 0; i < text.length(); i += 20) {
            has = x.feed(four(text, i), four(text, i + 4), four(text, i + 8), four(text, i + 12), four(text, i + 16));
        }
        return has;
    }

    private static int four(String text, int from) {
        int number = 0;
        for (int i = from; i < from + 4; i++) {
            number = number << 8 | (i < text.length() ? text.charAt(i) & 255 : 32);
        }
        return number;
    }

    /** A new object of which this text is told; the text must have no fault. */
    static HalfCitizen told(String text) {
        HalfCitizen x = new HalfCitizen();
        if (tell(x, text) == HalfCitizen.NONE) {
            due("a fault in " + text + " at " + x.fault(1), x.fault(0), 0);
        }
        return x;
    }

    static void faulty(String text, int fault, int place) {
        HalfCitizen x = new HalfCitizen();
        due("text of " + text, tell(x, text), HalfCitizen.NONE);
        due("fault(0) of " + text, x.fault(0), fault);
        due("fault(1) of " + text, x.fault(1), place);
    }

    static int letters(String name) {
        int number = 0;
        for (int i = 0; i < 6; i++) {
            number = number << 5 | (i < name.length() ? name.charAt(i) - 'a' + 1 : 0);
        }
        return number;
    }

    static void end() {
        System.out.println(asked + " answers asked for, " + wrong + " not as due");
        if (wrong != 0 || asked == 0) {
            System.exit(1);
        }
    }
}
