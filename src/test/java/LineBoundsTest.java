/** Promise 3 and 4: each number, each row and each order that the terms bind a LINE or an E to, at its bounds. */
public final class LineBoundsTest {
    private static final String MAN = "man a 0 north left 0;";
    private static final String[] LANGUAGE = ("street land man deed bar fine seed law north east south west left right "
            + "lhand rhand lfoot rfoot hold sign hit pass bind may tax or and not part side where face cross hour")
            .split(" ");
    private static final String[] PARTS = {"lhand", "rhand", "lfoot", "rfoot"};
    private static final String[] NAMES = {"part", "side", "where", "face", "cross", "deed", "hour"};
    private static final String[] COMPARISONS = {"<", "<=", "=", "<>", ">=", ">"};
    private static final String[] OTHERS = {"+", "-", "*", "/", " and ", " or "};
    private static final long[] FIVE_AND_TWO = {0, 0, 0, 1, 1, 1, 7, 3, 10, 2, 1, 1};

    public static void main(String[] args) {
        street();
        cells();
        landUpwards();
        latestLand();
        coin();
        hours();
        fine();
        seed();
        numbersOfSentences();
        fiveLands();
        fiveMen();
        twelveDeeds();
        eightBars();
        eightOpen();
        sixtyFourKnots();
        sixtyFifthKnot();
        longSign();
        oneComparison();
        wordsThatCannotStand();
        toldAlready();
        notToldAhead();
        streetAhead();
        firstAlongTheText();
        leastOfOnePlace();
        Check.end();
    }

    private static void faultless(String text, int lines) {
        HalfCitizen x = new HalfCitizen();
        Check.due("lines of " + text, Check.tell(x, text), lines);
        Check.due("no fault of " + text, x.fault(0), 0);
        Check.due("no place in " + text, x.fault(1), -1);
    }

    /** "LONG 2 .. 12 (8 without)" */
    private static void street() {
        for (int cells = 2; cells <= 12; cells++) {
            HalfCitizen x = Check.told("street " + cells + ";");
            Check.due("LONG", x.count(0), cells);
            Check.due("its last cell", x.land(cells - 1), -2);
            Check.due("no cell behind it", x.land(cells), -1);
        }
        Check.due("without", Check.told("fine 2;").count(0), 8);
        Check.faulty("street 1;", 2, 7);
        Check.faulty("street 0;", 2, 7);
        Check.faulty("street 13;", 2, 7);
        Check.faulty("street 4294967298;", 2, 7);
        Check.faulty("street 18446744073709551618;", 2, 7);
    }

    /** "CELLS 0 .. LONG less 1" */
    private static void cells() {
        for (int cells = 2; cells <= 12; cells++) {
            String street = "street " + cells + ";";
            int at = street.length();
            int last = cells - 1;
            HalfCitizen x = Check.told(street + "land l 0 " + last + ";man a 0 west left 0;man b " + last + " west left 0;");
            Check.due("the first cell", x.land(0) * 100 + x.look(0, 0), 0);
            Check.due("the last cell", x.land(last) * 100 + x.look(1, 0), last);
            faultless(street + "land l " + last + " " + last + ";", 2);
            Check.faulty(street + "land l " + cells + " " + cells + ";", 2, at + 7);
            Check.faulty(street + "land l 0 " + cells + ";", 2, at + 9);
            Check.faulty(street + "man a " + cells + " west left 0;", 2, at + 6);
        }
        faultless("land l 7 7;man a 7 west left 0;", 2);
        Check.faulty("land l 8 8;", 2, 7);
        Check.faulty("land l 7 8;", 2, 9);
        Check.faulty("man a 8 west left 0;", 2, 6);
    }

    /** "from a CELL to one (not below it)" */
    private static void landUpwards() {
        faultless("land l 3 3;", 1);
        faultless("land l 3 4;", 1);
        Check.faulty("land l 3 2;", 2, 9);
        Check.faulty("land l 7 0;", 2, 9);
        HalfCitizen x = Check.told("land l 3 4;");
        int[] lands = {-2, -2, -2, 0, 0, -2, -2, -2};
        for (int cell = 0; cell < 8; cell++) {
            Check.due("land(" + cell + ")", x.land(cell), lands[cell]);
        }
    }

    /** "a CELL is of the latest LAND told that has it, or of none" */
    private static void latestLand() {
        HalfCitizen x = Check.told("street 7;land a 1 5;land b 3 3;land c 4 5;land d 5 5;land e 1 1;");
        int[] lands = {-2, 4, 0, 1, 2, 3, -2};
        for (int cell = 0; cell < 7; cell++) {
            Check.due("land(" + cell + ")", x.land(cell), lands[cell]);
        }
        HalfCitizen y = Check.told("street 2;land a 0 0;land b 0 0;land c 0 1;");
        Check.due("all of it is of the last one", y.land(0) * 10 + y.land(1), 22);
    }

    /** "COIN 0 .. 99" */
    private static void coin() {
        Check.due("none", Check.told("man a 0 west left 0;").look(0, 4), 0);
        Check.due("the most", Check.told("man a 0 west left 99;").look(0, 4), 99);
        Check.faulty("man a 0 west left 100;", 2, 18);
    }

    /** "at an HOUR 0 .. 23" */
    private static void hours() {
        Check.due("the first", Check.told(MAN + "deed a lhand hold 0;").deed(0, 3), 0);
        Check.due("the last", Check.told(MAN + "deed a lhand hold 23;").deed(0, 3), 23);
        Check.faulty(MAN + "deed a lhand hold 24;", 2, 39);
    }

    /** "fine: 0 .. 99 (5)" */
    private static void fine() {
        String clash = "man a 0 west left 99;deed a lhand hit 0;";
        Check.due("none", leftOf(clash + "fine 0;"), 99);
        Check.due("one", leftOf("fine 1;" + clash), 98);
        Check.due("five without", leftOf(clash), 94);
        Check.due("the most", leftOf(clash + "fine 99;"), 0);
        Check.faulty(clash + "fine 100;", 2, 45);
    }

    private static int leftOf(String text) {
        HalfCitizen x = Check.told(text);
        x.go(1);
        return x.look(0, 4);
    }

    /** "seed: 0 .. 99999 (0)" */
    private static void seed() {
        faultless("seed 0;", 1);
        faultless("seed 99999;", 1);
        Check.faulty("seed 100000;", 2, 5);
        Check.faulty("seed 4294967296;", 2, 5);
    }

    /** "N of E 0 .. 9999" */
    private static void numbersOfSentences() {
        Check.due("the least", Check.told(MAN + "law tax 0;").law(2, 0, 0, 0), 0);
        Check.due("the most", Check.told(MAN + "law tax 9999;").law(2, 0, 0, 0), 9999);
        Check.due("zeros ahead", Check.told(MAN + "law tax 0000000009999;").law(2, 0, 0, 0), 9999);
        Check.faulty("law tax 10000;", 2, 8);
        Check.faulty("law tax 4294967297;", 2, 8);
        Check.faulty("law tax 1+10000;", 2, 10);
    }

    private static String rows(String line, int many) {
        StringBuilder rows = new StringBuilder();
        for (int i = 0; i < many; i++) {
            rows.append(line.replace('#', (char) ('p' + i)));
        }
        return rows.toString();
    }

    /** "LANDS, at most 5", "a sixth land and so on (at the word of the LINE)" */
    private static void fiveLands() {
        String five = rows("land # 0 0;", 5);
        Check.due("five", Check.told(five).count(1), 5);
        Check.due("the fifth has the cell", Check.told(five).land(0), 4);
        Check.faulty(five + "land z 0 0;", 2, 55);
        Check.faulty(five + "land", 2, 55);
        Check.faulty(five + MAN + "land p x", 2, 76);
    }

    /** "MEN, at most 5" */
    private static void fiveMen() {
        String five = rows("man # 0 west left 9;", 5);
        Check.due("five", Check.told(five).count(2), 5);
        Check.due("all coin", Check.told(five).count(10), 45);
        Check.faulty(five + MAN, 2, 100);
        Check.faulty(five + "man", 2, 100);
        Check.faulty(five + "man p 9", 2, 100);
    }

    /** "DEEDS, at most 12" */
    private static void twelveDeeds() {
        String twelve = MAN + rows("deed a rhand pass 5;", 12);
        HalfCitizen x = Check.told(twelve);
        Check.due("twelve", x.count(3), 12);
        Check.due("the last one", x.deed(11, 3), 5);
        Check.due("none behind it", x.deed(12, 3), -1);
        x.go(6);
        Check.due("all are done", x.count(7), 12);
        Check.faulty(twelve + "deed a rhand pass 5;", 2, 21 + 240);
        Check.faulty(twelve + "deed", 2, 21 + 240);
    }

    /** "BARS, at most 8: a LAND bars a PART (each once)" */
    private static void eightBars() {
        String lands = "land a 0 1;land b 2 3;land c 4 5;";
        StringBuilder bars = new StringBuilder(lands);
        for (int i = 0; i < 8; i++) {
            bars.append("bar ").append(i < 4 ? "a " : "b ").append(PARTS[i % 4]).append(';');
        }
        HalfCitizen x = Check.told(bars.toString());
        Check.due("eight", x.count(4), 8);
        Check.faulty(bars + "bar c lhand;", 2, 33 + 96);
        Check.faulty(bars + "bar a lhand;", 2, 33 + 96);
        Check.faulty(bars + "bar", 2, 33 + 96);
        for (String part : PARTS) {
            Check.faulty(lands + "bar a " + part + ";bar b " + part + ";bar a " + part + ";", 3, 33 + 24 + 6);
        }
    }

    /** "a ninth '(' open" */
    private static void eightOpen() {
        faultless("law tax ((((((((1))))))));", 1);
        Check.faulty("law tax (((((((((1)))))))));", 2, 16);
        Check.faulty("law tax ( ( ( ( ( ( ( ( (", 2, 24);
        faultless("law tax ((((((((1))))))))+((((((((1)))))))) or not ((((((((1))))))));", 1);
        faultless("law tax (((((((1)+(2))*(3))+(4))*(5))+(6))*(7))+(8);", 1);
        faultless("law tax (((((((1+(2))))))));", 1);
        Check.faulty("law tax ((((((((1+(2)))))))));", 2, 18);
        Check.faulty("law tax ((((((((1))))))))+(((((((((1;", 2, 34);
        Check.faulty("law bind ((((((((1))))))));law may (((((((((1;", 2, 43);
    }

    /** An E of so many KNOTS. */
    private static String knots(int many) {
        StringBuilder e = new StringBuilder(many % 2 == 0 ? "not 1" : "1");
        for (int i = many % 2 == 0 ? 2 : 1; i < many; i += 2) {
            e.append("+1");
        }
        return e.toString();
    }

    /** "a 65th KNOT of all E (N, NAMES, signs, not, and, or: one each)": 64 there may be. */
    private static void sixtyFourKnots() {
        int[] counts = {1, 2, 3, 62, 63, 64};
        for (int many : counts) {
            Check.due("knots", Check.told("law tax " + knots(many) + ";").count(5), many);
        }
        Check.due("of all E", Check.told("law tax " + knots(21) + ";law bind " + knots(22) + ";law may " + knots(21) + ";")
                .count(5), 64);
        Check.due("(, ) are none", Check.told("law tax ((((1))));law may (" + knots(63) + ");").count(5), 64);
        for (String name : NAMES) {
            Check.due("one of a name", Check.told("law tax " + name + ";").count(5), 1);
        }
        for (String sign : COMPARISONS) {
            Check.due("one of " + sign, Check.told("law tax 1" + sign + "1;").count(5), 3);
        }
        for (String sign : OTHERS) {
            Check.due("one of " + sign, Check.told("law tax 1" + sign + "1" + sign + "1;").count(5), 5);
        }
        StringBuilder nots = new StringBuilder();
        for (int i = 0; i < 63; i++) {
            nots.append("not ");
        }
        HalfCitizen x = Check.told(MAN + "law tax " + nots + "7;");
        Check.due("63 not and a number", x.count(5), 64);
        Check.due("what they make of it", x.law(2, 0, 0, 0), 0);
        Check.faulty("law tax " + nots + "not 7;", 2, 8 + 64 * 4);
        Check.faulty("law tax " + nots + "not not 7;", 2, 8 + 64 * 4);
        Check.due("64 knots of one E", Check.told(MAN + "law tax " + knots(63) + ";law may 1;").law(2, 0, 0, 0), 32);
    }

    /** "2 too much (at it)": at the 65th KNOT, whatever it is. */
    private static void sixtyFifthKnot() {
        String full = "law bind " + knots(63) + ";law may 1;";
        int at = full.length();
        Check.faulty(full + "law tax 1;", 2, at + 8);
        Check.faulty(full + "law tax ((1;", 2, at + 10);
        Check.faulty(full + "law tax not 1;", 2, at + 8);
        for (String name : NAMES) {
            Check.faulty(full + "law tax " + name + ";", 2, at + 8);
        }
        String oneLeft = "law bind " + knots(63) + ";law may 1";
        for (String sign : COMPARISONS) {
            Check.faulty(oneLeft + sign + "1;", 2, oneLeft.length());
        }
        for (String sign : OTHERS) {
            int blank = sign.charAt(0) == ' ' ? 1 : 0;
            Check.faulty(oneLeft + sign + "1;", 2, oneLeft.length() + blank);
        }
    }

    /** "A = (or > behind <) right behind < or > belongs to it" */
    private static void longSign() {
        String[] all = {"<", "<=", "=", "<>", ">=", ">", "+", "-", "*", "/", " and ", " or "};
        for (int i = 0; i < all.length; i++) {
            HalfCitizen x = Check.told(MAN + "law tax 5" + all[i] + "2;");
            Check.due("5" + all[i] + "2", x.law(2, 0, 0, 0), FIVE_AND_TWO[i]);
        }
        Check.faulty("law tax 1=<2;", 1, 10);
        Check.faulty("law tax 1=>2;", 1, 10);
        Check.faulty("law tax 1==2;", 1, 10);
        Check.faulty("law tax 1><2;", 1, 10);
        Check.faulty("law tax 1>>2;", 1, 10);
        Check.faulty("law tax 1<<2;", 1, 10);
        Check.faulty("law tax 1<==2;", 1, 11);
        Check.faulty("law tax 1<>=2;", 1, 11);
        Check.faulty("law tax 1< =2;", 1, 11);
        Check.faulty("law tax 1< >2;", 1, 11);
        Check.faulty("law tax 1> =2;", 1, 11);
        Check.faulty("law tax 1<=", 1, 11);
        Check.faulty("law tax 1<", 1, 10);
    }

    /** "C: S [ .. S ]": one comparison at most, of sums. */
    private static void oneComparison() {
        Check.faulty("law tax 1<2<3;", 1, 11);
        Check.faulty("law tax 1=2<>3;", 1, 11);
        faultless("law tax (1<2)<(3=4);", 1);
        faultless("law tax 1<2 and 3=4 or not 5>6;", 1);
        Check.faulty("law tax 1<not 2;", 1, 10);
        Check.faulty("law tax 1*not 2;", 1, 10);
        Check.faulty("law tax 1 not 2;", 1, 10);
        Check.faulty("law tax 1-;", 1, 10);
        Check.faulty("law tax -1;", 1, 8);
        Check.faulty("law tax 1--1;", 1, 10);
        Check.faulty("law tax (1));", 1, 11);
        Check.faulty("law tax ((1);", 1, 12);
        Check.faulty("law tax and;", 1, 8);
        Check.faulty("law tax <1;", 1, 8);
        Check.faulty("law tax 1(2);", 1, 9);
        Check.faulty("law tax part side;", 1, 13);
        Check.faulty("law tax left;", 1, 8);
        Check.faulty("law tax land;", 1, 8);
    }

    /** "a TOKEN that .. can't stand there": every word of the language in every place where some of them may stand. */
    private static void wordsThatCannotStand() {
        for (String word : LANGUAGE) {
            standing(word, "man a 0 ", " left 9;", "north east south west");
            standing(word, "man a 0 west ", " 9;", "left right");
            standing(word, MAN + "deed a ", " hit 9;", "lhand rhand lfoot rfoot");
            standing(word, MAN + "deed a lhand ", " 9;", "hold sign hit pass");
            standing(word, "land a 0 0;bar a ", ";", "lhand rhand lfoot rfoot");
            standing(word, "law ", " 1;", "bind may tax");
            standing(word, "law tax 1+", ";", "part side where face cross deed hour");
            standing(word, "law tax 1 ", " 1;", "or and");
            Check.faulty("fine " + word + ";", 1, 5);
            Check.faulty("fine 1;seed " + word + ";", 1, 12);
            Check.faulty("land a " + word + " 0;", 1, 7);
            Check.faulty("fine 1 " + word + ";", 1, 7);
        }
        String none = "street land man deed bar fine seed law";
        for (String word : LANGUAGE) {
            if (!(" " + none + " ").contains(" " + word + " ")) {
                Check.faulty("fine 1;" + word + " 1;", 1, 7);
            }
        }
    }

    private static void standing(String word, String ahead, String behind, String fine) {
        if ((" " + fine + " ").contains(" " + word + " ")) {
            Check.due(ahead + word, Check.tell(new HalfCitizen(), ahead + word + behind) > 0, true);
        } else {
            Check.faulty(ahead + word + behind, 1, ahead.length());
        }
    }

    /** "3 told already: a name of its kind (at W), a BAR (at PART), street, fine, seed (at the word), a law .. (at RULE)" */
    private static void toldAlready() {
        Check.faulty("land b 0 0;land b 1 1;", 3, 16);
        Check.faulty("land b 0 0;land c 0 0;land b", 3, 27);
        Check.faulty("man b 0 west left 0;man b 1 east left 0;", 3, 24);
        faultless("land b 0 0;man b 0 west left 0;land bb 0 0;man bb 0 west left 0;", 4);
        Check.faulty("street 5;street 5;", 3, 9);
        Check.faulty("street 5;fine 1;street", 3, 16);
        Check.faulty("fine 5;fine 5;", 3, 7);
        Check.faulty("fine 0;seed 0;fine", 3, 14);
        Check.faulty("seed 0;seed 0;", 3, 7);
        String[] rules = {"bind", "may", "tax"};
        for (String rule : rules) {
            String line = "law " + rule + " 1;";
            Check.faulty(line + line, 3, line.length() + 4);
            Check.faulty("law bind 1;law may 1;law tax 1;law " + rule, 3, 35);
        }
        faultless("law tax 1;law may 1;law bind 1;", 3);
    }

    /** "4 a MAN, a LAND that isn't told ahead (at W)" */
    private static void notToldAhead() {
        Check.faulty("deed a lhand hit 0;" + MAN, 4, 5);
        Check.faulty("land b 0 0;" + MAN + "deed b lhand hit 0;", 4, 37);
        Check.faulty("bar b lhand;land b 0 0;", 4, 4);
        Check.faulty("land b 0 0;" + MAN + "bar a lhand;", 4, 36);
        Check.faulty(MAN + "deed aa lhand hit 0;", 4, 26);
        Check.faulty("land bb 0 0;bar b lhand;", 4, 16);
        Check.faulty("deed a", 4, 5);
        Check.faulty("bar b x", 4, 4);
    }

    /** "street behind a line with a CELL (land, man; at the word)", "ahead of all lines with CELLS" */
    private static void streetAhead() {
        Check.faulty("land b 0 0;street 5;", 4, 11);
        Check.faulty(MAN + "street 5;", 4, 21);
        Check.faulty(MAN + "fine 1;street", 4, 28);
        faultless("fine 1;seed 1;law bind 1;law may 1;law tax 1;street 5;land b 4 4;", 7);
    }

    /** "FAULTS, the first along the text" */
    private static void firstAlongTheText() {
        Check.faulty("fine 100;seed 100000;", 2, 5);
        Check.faulty("fine 1;x;fine 100;", 1, 7);
        Check.faulty("land a 9 x;", 2, 7);
        Check.faulty("land a x 9;", 1, 7);
        Check.faulty("man a 0 west up 100;", 1, 13);
        Check.faulty("deed a up hit 24;", 4, 5);
        Check.faulty(MAN + "deed a up hit 24;", 1, 28);
        Check.faulty("land a 0 0;land a 9 9;", 3, 16);
        Check.faulty("fine 1;fine 100;", 3, 7);
        Check.faulty("law tax 10000 10000;", 2, 8);
        Check.faulty("law tax 1 10000;", 1, 10);
    }

    /** "(of one place the least)" */
    private static void leastOfOnePlace() {
        Check.faulty("street 5;land b 0 0;street 5;", 3, 20);
        String full = "law bind " + knots(63) + ";law may 1;";
        Check.faulty(full + "law tax lhand;", 1, full.length() + 8);
        Check.faulty(full + "law tax +;", 1, full.length() + 8);
        Check.faulty(full + "law tax a;", 1, full.length() + 8);
        Check.faulty(full + "law tax 10000;", 2, full.length() + 8);
        Check.faulty("law tax (((((((( );", 1, 17);
        Check.faulty("law tax 1((((((((((1;", 1, 9);
        Check.faulty(rows("land # 0 0;", 5) + "lands p 0 0;", 1, 55);
    }
}
