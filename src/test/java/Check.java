/** What the tests of the project share: counting what is not as due, and telling a text to an object. */
final class Check {
    private static int wrong = 0;
    private static int asked = 0;

    private Check() {
    }

    static void due(String what, long got, long want) {
        asked++;
        if (got != want) {
            wrong++;
            System.out.println(what + " answered " + got + ", due is " + want);
        }
    }

    static void due(String what, boolean got, boolean want) {
        due(what, got ? 1 : 0, want ? 1 : 0);
    }

    /** Feeds the text, filled up with blanks, and lets it be read. */
    static int tell(HalfCitizen x, String text) {
        feed(x, text);
        return x.text(text.length());
    }

    static int feed(HalfCitizen x, String text) {
        int has = 0;
        for (int i = 0; i < text.length(); i += 20) {
            has = x.feed(four(text, i), four(text, i + 4), four(text, i + 8), four(text, i + 12), four(text, i + 16));
        }
        return has;
    }

    private static int four(String text, int from) {
        int number = 0;
        for (int i = from; i < from + 4; i++) {
            number = number << 8 | (i < text.length() ? text.charAt(i) & 255 : 32);
        }
        return number;
    }

    /** A new object of which this text is told; the text must have no fault. */
    static HalfCitizen told(String text) {
        HalfCitizen x = new HalfCitizen();
        if (tell(x, text) == HalfCitizen.NONE) {
            due("a fault in " + text + " at " + x.fault(1), x.fault(0), 0);
        }
        return x;
    }

    /** All that can be looked at without changing something, as one text; it takes some 120 calls. */
    static String all(HalfCitizen x) {
        return allButUndo(x) + " " + x.count(13);
    }

    /** The same, but for how many can be undone. */
    static String allButUndo(HalfCitizen x) {
        StringBuilder all = new StringBuilder();
        for (int what = 0; what < 15; what++) {
            all.append(what == 13 ? 0 : x.count(what)).append(' ');
        }
        for (int man = 0; man < x.count(2); man++) {
            for (int what = 0; what < 7; what++) {
                all.append(x.look(man, what)).append(' ');
            }
            for (int part = 0; part < 4; part++) {
                all.append(x.lawful(man, part, 2)).append(x.law(2, man, part, 0)).append(' ');
            }
        }
        for (int deed = 0; deed < x.count(3); deed++) {
            all.append(x.deed(deed, 4)).append(' ');
        }
        for (int cell = 0; cell < x.count(0); cell++) {
            all.append(x.land(cell)).append(' ');
        }
        return all.append(x.whose()).append(' ').append(x.clash()).toString();
    }

    static void faulty(String text, int fault, int place) {
        HalfCitizen x = new HalfCitizen();
        due("text of " + text, tell(x, text), HalfCitizen.NONE);
        due("fault(0) of " + text, x.fault(0), fault);
        due("fault(1) of " + text, x.fault(1), place);
    }

    static int letters(String name) {
        int number = 0;
        for (int i = 0; i < 6; i++) {
            number = number << 5 | (i < name.length() ? name.charAt(i) - 'a' + 1 : 0);
        }
        return number;
    }

    static void end() {
        System.out.println(asked + " answers asked for, " + wrong + " not as due");
        if (wrong != 0 || asked == 0) {
            System.exit(1);
        }
    }
}
