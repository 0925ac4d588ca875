/** Promises 1 to 5 at their bounds, with what the terms say of a text: one function for each bound that is named. */
public final class TextBoundsTest {
    private static final String MAN = "man a 0 north left 0;";
    private static final String LAND = "land l 0 0;";
    private static final String[] LANGUAGE = ("street land man deed bar fine seed law north east south west left right "
            + "lhand rhand lfoot rfoot hold sign hit pass bind may tax or and not part side where face cross hour")
            .split(" ");

    public static void main(String[] args) {
        newObjectHasNothing();
        feedHighestFirst();
        feedUpTo700();
        feedBeyond700();
        textOfNothing();
        textOfMoreThanThereIs();
        textBelowNothing();
        textWithFaultEmptiesTape();
        textWithFaultLeavesAll();
        textBeginsAnew();
        textOfLessBehindMore();
        textsOfAllKnots();
        faultIsOfLatest();
        faultOfAnotherWhat();
        namedByLetters();
        namedNone();
        blanks();
        bytesThatAreNoToken();
        wordsTooLong();
        wordsOfTheLanguage();
        moreMustCome();
        Check.end();
    }

    /** "A TEXT without LINES; an empty TAPE." */
    private static void newObjectHasNothing() {
        HalfCitizen x = new HalfCitizen();
        Check.due("the tape is empty", x.text(1), -2);
        for (int cell = 0; cell < 8; cell++) {
            Check.due("no land at " + cell, x.land(cell), -2);
        }
        Check.due("land(8)", x.land(8), -1);
        Check.due("deed(0, 0)", x.deed(0, 0), -1);
        Check.due("part(0, 0, 0)", x.part(0, 0, 0), -2);
        Check.due("lawful(0, 0, 0)", x.lawful(0, 0, 0), -1);
        Check.due("law(0, 0, 0, 0)", x.law(0, 0, 0, 0), Long.MIN_VALUE);
        Check.due("named(0, 0)", x.named(0, 0), -1);
        Check.due("named(1, 0)", x.named(1, 0), -1);
        Check.due("move(0, 0)", x.move(0, 0), false);
        Check.due("free(0, 0)", x.free(0, 0), false);
        Check.due("fewest(0, 0, 0)", x.fewest(0, 0, 0), -1);
        Check.due("joint(0, 0, 1, 0, 0)", x.joint(0, 0, 1, 0, 0), -1);
        Check.due("loopholes(0, 0)", x.loopholes(0, 0), -1);
        Check.due("shut(0, 0)", x.shut(0, 0), -1);
        Check.due("rests(0, 1)", x.rests(0, 1), -1);
        Check.due("freed(0)", x.freed(0), -1);
        Check.due("chance(0, 0, 0)", x.chance(0, 0, 0), -1);
        Check.due("tried(3, 0)", x.tried(3, 0), -1);
        Check.due("print(0, 0, 7)", x.print(0, 0, 7), 0);
        Check.due("print(0, 0, 8)", x.print(0, 0, 8), -1);
        Check.due("keep()", x.keep(), 0);
        Check.due("go(24)", x.go(24), 24);
    }

    /** "four of each number, the highest first" */
    private static void feedHighestFirst() {
        HalfCitizen x = new HalfCitizen();
        Check.due("feed", x.feed(0x6d616e20, 0x61203120, 0x73757468, 0, 0), 20);
        Check.due("its third number is no face", x.text(12), -1);
        Check.due("so far it was read", x.fault(1), 8);
        x.feed(0x66696e65, 0x20373b73, 0x65656420, 0x39393939, 0x393b2020);
        Check.due("fine 7;seed 99999;", x.text(20), 2);
        for (int at = 0; at < 20; at++) {
            int[] n = {0x20202020, 0x20202020, 0x20202020, 0x20202020, 0x20202020};
            n[at / 4] ^= 0xa0 << 24 - at % 4 * 8;
            x.feed(n[0], n[1], n[2], n[3], n[4]);
            Check.due("a byte above 127 at " + at, x.text(20), -1);
            Check.due("its place", x.fault(1), at);
        }
    }

    /** "how many it has" */
    private static void feedUpTo700() {
        HalfCitizen x = filled(34);
        Check.due("680 and 20", x.feed(0x66696e65, 0x20393920, 0x20202020, 0x20202020, 0x2020203b), 700);
        Check.due("all 700 are the text", x.text(700), 1);
    }

    /** "NONE, and none come, if it would have more than 700" */
    private static void feedBeyond700() {
        HalfCitizen x = filled(35);
        Check.due("none comes", x.feed(0x3b3b3b3b, 0x3b3b3b3b, 0x3b3b3b3b, 0x3b3b3b3b, 0x3b3b3b3b), -1);
        Check.due("nor at another try", x.feed(0, 0, 0, 0, 0), -1);
        Check.due("701 there are not", x.text(701), -2);
        Check.due("720 neither", x.text(720), -2);
        Check.due("still full", x.feed(0, 0, 0, 0, 0), -1);
        Check.due("700 blanks", x.text(700), 0);
        Check.due("it begins anew", x.feed(0, 0, 0, 0, 0), 20);
    }

    private static HalfCitizen filled(int feeds) {
        HalfCitizen x = new HalfCitizen();
        for (int i = 1; i <= feeds; i++) {
            Check.due("feed " + i, x.feed(0x20202020, 0x0a0a0a0a, 0x20202020, 0x20202020, 0x20202020), 20 * i);
        }
        return x;
    }

    /** "The TAPE's first n bytes (it is empty then)", none of them. */
    private static void textOfNothing() {
        HalfCitizen x = Check.told("street 5;" + MAN);
        Check.feed(x, "this is no text");
        Check.due("text(0)", x.text(0), 0);
        Check.due("no lines: men", x.count(2), 0);
        Check.due("no lines: street", x.count(0), 8);
        Check.due("the tape is empty", x.text(1), -2);
        Check.due("the next bytes are the first", x.feed(0, 0, 0, 0, 0), 20);
    }

    /** "-2, and the TAPE stays: there are not so many" */
    private static void textOfMoreThanThereIs() {
        HalfCitizen x = Check.told("street 5;");
        Check.feed(x, "street 6;");
        Check.due("21 of 20", x.text(21), -2);
        Check.due("far more", x.text(Integer.MAX_VALUE), -2);
        Check.due("all stays", x.count(0), 5);
        Check.due("the tape stays", x.feed(0x20202020, 0x20202020, 0x20202020, 0x20202020, 0x20202020), 40);
        Check.due("41 of 40", x.text(41), -2);
        Check.due("40 of 40", x.text(40), 1);
        Check.due("told", x.count(0), 6);
    }

    /** "n is below 0" */
    private static void textBelowNothing() {
        HalfCitizen x = new HalfCitizen();
        Check.due("text(-1) of an empty tape", x.text(-1), -2);
        Check.feed(x, "street 6;");
        Check.due("text(-1)", x.text(-1), -2);
        Check.due("text(least)", x.text(Integer.MIN_VALUE), -2);
        Check.due("the tape stays", x.text(9), 1);
    }

    /** "NONE with a FAULT": the first n bytes are gone, and what stood behind them, too. */
    private static void textWithFaultEmptiesTape() {
        HalfCitizen x = new HalfCitizen();
        Check.feed(x, "street;street 6;street 7;");
        Check.due("a fault", x.text(16), -1);
        Check.due("the tape is empty", x.text(1), -2);
        Check.due("the next bytes are the first", Check.feed(x, "street 9;"), 20);
        Check.due("told", x.text(9), 1);
        Check.due("street 9", x.count(0), 9);
    }

    /** "NONE with a FAULT, all stays" */
    private static void textWithFaultLeavesAll() {
        HalfCitizen x = Check.told("street 6;land l 1 2;man a 1 south right 20;bar l lhand;law tax 1;fine 3;"
                + "deed a lhand hold 0;deed a rhand hit 1;");
        x.keep();
        x.go(1);
        x.move(0, 2);
        x.print(1, 1, 1);
        x.known(0);
        String ahead = Check.all(x);
        String[] bad = {"street 7;land m 0 0;man b 2 east left 3;law tax 2;fine 9;bar m lfoot;deed b lfoot pass 3;x",
            "", ";", "street 13;", "man b 2 east left 3", "street 2;street 2;", "deed a lhand hold 0;", "bar l lhand;"};
        for (String text : bad) {
            int due = text.isEmpty() ? -2 : -1;
            Check.feed(x, text);
            Check.due("text of " + text, x.text(text.isEmpty() ? 1 : text.length()), due);
        }
        Check.due("all stays", Check.all(x).equals(ahead), true);
        Check.due("what can be undone, too", x.undo(), 0);
        Check.due("the image, too", x.back(), 0);
    }

    /** "(HOUR 0, all uncrossed, nothing SEIZED, no PRINTS, all KNOWN, no IMAGE, nothing to undo then)" */
    private static void textBeginsAnew() {
        String text = "man a 1 south right 20;deed a lfoot hold 0;law bind 1;law may 0;";
        HalfCitizen x = Check.told(text);
        String begun = Check.all(x);
        x.go(2);
        x.move(0, 2);
        x.move(0, 3);
        x.print(0, 0, 0);
        x.known(0);
        x.keep();
        Check.due("a seized part", x.look(0, 6), 4);
        Check.due("the same text", Check.tell(x, text), 4);
        Check.due("as at first", Check.all(x).equals(begun), true);
        x.print(0, 0, 7);
        Check.due("known by all", x.whose(), 0);
        Check.due("no image", x.back(), -1);
        Check.due("nothing to undo", x.undo(), -1);
    }

    /** What more the TEXTS ahead told is nowhere left, whichever of them it was. */
    private static void textOfLessBehindMore() {
        String more = "street 4;land l 0 3;land k 1 2;bar l lhand;bar k rfoot;fine 7;seed 9;law bind 1;law may 0;law tax 2;"
                + "man a 0 west right 90;man b 1 west left 80;deed a lhand hit 0;deed b rhand hit 0;";
        String less = "land m 1 1;man c 3 west left 9;deed c rhand hit 0;deed c lhand hit 1;";
        String[] texts = {more, more, less, more, "", less, more, more, more, less, "bar x", less};
        HalfCitizen x = new HalfCitizen();
        for (String text : texts) {
            int lines = text.equals(more) ? 14 : text.equals(less) ? 4 : text.isEmpty() ? 0 : -1;
            Check.due("lines", text.isEmpty() ? x.text(0) : Check.tell(x, text), lines);
            if (text.equals(less)) {
                int[] counts = {8, 1, 1, 2, 0, 0, 0, 0, 0, 0, 9, 0, 0, 0, 0};
                for (int what = 0; what < 15; what++) {
                    Check.due("count(" + what + ")", x.count(what), counts[what]);
                }
                Check.due("lands", x.land(0) * 100 + x.land(1) * 10 + x.land(2), -202);
                Check.due("nothing is barred", x.part(0, 0, 4) + x.part(0, 3, 4), 0);
                Check.due("no laws", x.law(0, 0, 0, 0) == x.law(2, 0, 0, 0) && x.law(1, 0, 0, 0) == Long.MIN_VALUE, true);
                Check.due("no names", x.named(0, 12 << 25) + x.named(1, 1 << 25), -2);
                x.go(24);
                Check.due("done, clashed, coin", x.count(7) * 100 + x.count(8) * 10 + x.count(10), 114);
            }
        }
    }

    /** Each TEXT may have 64 KNOTS, whatever those ahead had. */
    private static void textsOfAllKnots() {
        StringBuilder knots = new StringBuilder("law may not 0;law tax 1");
        for (int i = 0; i < 30; i++) {
            knots.append("+1");
        }
        HalfCitizen x = new HalfCitizen();
        for (int i = 0; i < 5; i++) {
            Check.due("lines", Check.tell(x, MAN + knots + " ;law bind 1;"), 4);
            Check.due("knots", x.count(5), 64);
            Check.due("tax", x.law(2, 0, 0, 0), 31);
            Check.due("may", x.law(1, 0, 0, 0), 1);
            Check.due("bind", x.law(0, 0, 0, 0), 1);
            Check.due("one more", Check.tell(x, MAN + knots + " ;law bind not 1;"), -1);
            Check.due("is too much", x.fault(0), 2);
        }
    }

    /** "Of the latest text() that was not -2", "(NONE without)" */
    private static void faultIsOfLatest() {
        HalfCitizen x = new HalfCitizen();
        Check.due("none yet", x.fault(0), 0);
        Check.due("no place yet", x.fault(1), -1);
        x.text(1);
        Check.due("-2 is no fault", x.fault(0), 0);
        Check.tell(x, "fine 1;seed 100000;");
        Check.due("fault", x.fault(0), 2);
        Check.due("place", x.fault(1), 12);
        x.text(1);
        x.text(-1);
        Check.due("it stays behind -2", x.fault(0), 2);
        Check.due("its place, too", x.fault(1), 12);
        Check.tell(x, ";");
        Check.due("another fault", x.fault(0), 1);
        Check.due("another place", x.fault(1), 0);
        x.text(0);
        Check.due("no fault", x.fault(0), 0);
        Check.due("no place", x.fault(1), -1);
    }

    /** "NONE for another what" */
    private static void faultOfAnotherWhat() {
        HalfCitizen x = new HalfCitizen();
        Check.tell(x, "fine 100;");
        int[] none = {-1, 2, Integer.MIN_VALUE, Integer.MAX_VALUE};
        for (int what : none) {
            Check.due("fault(" + what + ")", x.fault(what), -1);
        }
    }

    /** "by its letters, 5 bits each (a is 1; the first one highest of six, 0 behind the last one)" */
    private static void namedByLetters() {
        HalfCitizen x = Check.told("land a 0 0;land z 0 0;land abcdef 0 0;land zzzzzz 0 0;land za 0 0;"
                + "man az 0 west left 0;man a 0 west left 0;man yyyyyz 0 west left 0;");
        int[] lands = {1 << 25, 26 << 25, 35754150, 26 * 34636833, 26 << 25 | 1 << 20};
        int[] men = {1 << 25 | 26 << 20, 1 << 25, 25 * 34636833 + 1};
        for (int i = 0; i < lands.length; i++) {
            Check.due("land " + i, x.named(0, lands[i]), i);
        }
        for (int i = 0; i < men.length; i++) {
            Check.due("man " + i, x.named(1, men[i]), i);
        }
    }

    /** "NONE: there is none such" */
    private static void namedNone() {
        HalfCitizen x = Check.told("land b 0 0;man a 0 west left 0;");
        int a = 1 << 25;
        int[] none = {0, 1, a - 1, a + 1, a | 1 << 30, a | 1 << 31, -1, Integer.MIN_VALUE, Integer.MAX_VALUE};
        for (int letters : none) {
            Check.due("man of " + letters, x.named(1, letters), -1);
            Check.due("land of " + letters, x.named(0, letters), -1);
        }
        Check.due("the man is no land", x.named(0, a), -1);
        Check.due("the land is no man", x.named(1, 2 << 25), -1);
        int[] kinds = {-1, 2, Integer.MIN_VALUE, Integer.MAX_VALUE};
        for (int what : kinds) {
            Check.due("named(" + what + ")", x.named(what, a), -1);
        }
    }

    /** "Blanks 10, 32." */
    private static void blanks() {
        Check.due("none where none is needed", Check.tell(new HalfCitizen(), "fine5;law tax(1)or(2);seed0;"), 3);
        Check.due("many", Check.tell(new HalfCitizen(), "\n\n  fine \n 5\n; \n\n law  tax 1\n<\n2 ;\n "), 2);
        Check.due("blanks alone", Check.tell(new HalfCitizen(), " \n \n"), 0);
        Check.faulty("fi ne 5;", 1, 0);
        Check.faulty("fine 5 0;", 1, 7);
        Check.faulty("law tax 1< =2;", 1, 11);
        Check.faulty("law tax 1< >2;", 1, 11);
        Check.faulty("law tax 1>\n=2;", 1, 11);
        Check.faulty("land a b 0 0;", 1, 7);
    }

    /** "a TOKEN that is none": every byte alone, and every byte where a ';' might stand. */
    private static void bytesThatAreNoToken() {
        for (int b = 0; b < 256; b++) {
            boolean blank = b == 10 || b == 32;
            HalfCitizen x = new HalfCitizen();
            x.feed(b << 24, 0, 0, 0, 0);
            Check.due("text of byte " + b, x.text(1), blank ? 0 : -1);
            Check.due("fault of byte " + b, x.fault(0), blank ? 0 : 1);
            Check.due("place of byte " + b, x.fault(1), blank ? -1 : 0);
            x.feed(0x66696e65, 0x20350000 | b << 8, 0, 0, 0);
            boolean digit = b >= '0' && b <= '9';
            Check.due("fine 5 and byte " + b, x.text(7), b == ';' ? 1 : -1);
            Check.due("its place", x.fault(1), b == ';' ? -1 : digit || blank ? 7 : 6);
        }
    }

    /** "W: one of 1 .. 6 letters", "a word of more than 6 letters that is none of the language" */
    private static void wordsTooLong() {
        Check.due("one and six letters", Check.tell(new HalfCitizen(), "land a 0 0;land abcdef 0 0;"), 2);
        Check.faulty("land abcdefg 0 0;", 1, 5);
        Check.faulty("land streets 0 0;", 1, 5);
        Check.faulty("land landlandlandland 0 0;", 1, 5);
        Check.faulty("man abcdefg 0 west left 0;", 1, 4);
        Check.faulty(MAN + "deed aaaaaaa lhand hit 0;", 1, 26);
        Check.faulty("land abcdef 0 0;bar abcdefg lhand;", 1, 20);
        Check.faulty("streets 5;", 1, 0);
        Check.faulty("law bindbind 1;", 1, 4);
        Check.faulty("law tax partpart;", 1, 8);
        Check.faulty("man a 0 northnorth left 0;", 1, 8);
    }

    /** "W: .. none of those of the language" */
    private static void wordsOfTheLanguage() {
        for (String word : LANGUAGE) {
            Check.faulty("land " + word + " 0 0;", 1, 5);
            Check.faulty("man " + word + " 0 west left 0;", 1, 4);
            Check.faulty(MAN + "deed " + word + " lhand hit 0;", 1, 26);
            Check.faulty(LAND + "bar " + word + " lhand;", 1, 15);
            Check.due("longer by one: " + word, Check.tell(new HalfCitizen(), "land " + word + "x 0 0;"),
                    word.length() < 6 ? 1 : -1);
            String shorter = word.substring(1);
            boolean known = java.util.Arrays.asList(LANGUAGE).contains(shorter);
            Check.due("shorter by one: " + shorter, Check.tell(new HalfCitizen(), "land " + shorter + " 0 0;"),
                    known ? -1 : 1);
        }
    }

    /** "(the length, if more must come)" */
    private static void moreMustCome() {
        String[] lines = {"street 5", "land a 0 0", "man a 0 west left 0", MAN + "deed a lhand hit 0", LAND + "bar l rfoot",
            "fine 5", "seed 5", "law tax (not part < 1) or 2"};
        for (String line : lines) {
            int from = line.indexOf(';') + 1;
            for (int to = from + 1; to <= line.length(); to++) {
                char last = line.charAt(to - 1);
                boolean wordEnds = to == line.length() || !Character.isLetterOrDigit(line.charAt(to));
                if (wordEnds && last != ' ') {
                    Check.faulty(line.substring(0, to), 1, to);
                    Check.faulty(line.substring(0, to) + "\n ", 1, to + 2);
                }
            }
            Check.due("whole: " + line, Check.tell(new HalfCitizen(), line + ";") > 0, true);
        }
        Check.due("nothing must come", Check.tell(new HalfCitizen(), "fine 5; "), 1);
    }
}
