/** Promises 11 to 15 at their bounds, with what part 2 says of an HOUR, fines and tax, and part 3 of a MOVE. */
public final class HourBoundsTest {
    private static final int LEAST = Integer.MIN_VALUE;
    private static final int MOST = Integer.MAX_VALUE;
    private static final String STRICT = "law bind 1;law may 0;";

    public static void main(String[] args) {
        deedOfNone();
        deedFates();
        seizedIsLeft();
        deedsOfOneHour();
        fineAsFarAsItGoes();
        clashOfNone();
        clashByHours();
        clashAsTold();
        clashOfFirstAndTwelfth();
        turnsWrapAround();
        crossingsTwice();
        stepsWithinTheStreet();
        moveOfNone();
        freeForTheFine();
        freeOfNone();
        goNowhere();
        goToTheEnd();
        goBeyondTheEnd();
        goOfNoNumber();
        firstAndLastHour();
        taxOnce();
        taxAtItsBounds();
        taxAsFarAsItGoes();
        taxOfThatHour();
        Check.end();
    }

    /** "NONE: no such ones" */
    private static void deedOfNone() {
        HalfCitizen x = Check.told("man a 3 west left 9;deed a lhand hold 0;deed a rfoot pass 23;");
        int[] none = {-1, 5, 12, LEAST, MOST};
        for (int n : none) {
            Check.due("deed(" + n + ", 0)", x.deed(n, 0), -1);
            Check.due("deed(0, " + n + ")", x.deed(0, n), -1);
        }
        Check.due("deed(2, 0)", x.deed(2, 0), -1);
        Check.due("the last one", x.deed(1, 1) * 1000 + x.deed(1, 2) * 100 + x.deed(1, 3), 3323);
        Check.due("the last what", x.deed(1, 4), 0);
    }

    /** "4: 0 to come, 1 DONE, 2 it CLASHED, 3 LEFT" */
    private static void deedFates() {
        HalfCitizen x = Check.told("man a 3 west left 9;law bind 1;law may deed<3;deed a lhand hold 5;deed a rhand pass 5;"
                + "deed a rhand hold 6;");
        x.go(5);
        Check.due("at HOUR 5 they are to come", x.deed(0, 4) + x.deed(1, 4) + x.deed(2, 4), 0);
        x.go(1);
        Check.due("done", x.deed(0, 4), 1);
        Check.due("clashed", x.deed(1, 4), 2);
        Check.due("to come", x.deed(2, 4), 0);
        x.go(1);
        Check.due("left", x.deed(2, 4), 3);
        Check.due("counts", x.count(7) * 100 + x.count(8) * 10 + x.count(9), 111);
    }

    /** "if the PART is SEIZED, it is LEFT": even if it would clash, and it costs nothing. */
    private static void seizedIsLeft() {
        HalfCitizen x = Check.told("man a 3 west left 99;fine 10;" + STRICT + "deed a lhand hold 0;deed a lhand hold 1;"
                + "deed a rhand hold 1;man b 3 west left 50;deed b lhand hold 2;");
        x.go(3);
        Check.due("clashed", x.deed(0, 4), 2);
        Check.due("left", x.deed(1, 4), 3);
        Check.due("another part clashes", x.deed(2, 4), 2);
        Check.due("another man's part, too", x.deed(3, 4), 2);
        Check.due("two fines", x.look(0, 4), 79);
        Check.due("one fine", x.look(1, 4), 40);
        Check.due("seized", x.look(0, 6) * 100 + x.look(1, 6), 301);
    }

    /** "its DEEDS in their order" */
    private static void deedsOfOneHour() {
        HalfCitizen x = Check.told("man a 3 west left 99;law bind 1;law may deed=1;deed a lhand sign 4;deed a lhand hold 4;"
                + "deed a lhand sign 4;deed a rhand sign 4;");
        x.go(24);
        int[] due = {1, 2, 3, 1};
        for (int d = 0; d < due.length; d++) {
            Check.due("deed " + d, x.deed(d, 4), due[d]);
        }
    }

    /** "COIN is less by the fine (as far as it goes)" */
    private static void fineAsFarAsItGoes() {
        int[] coin = {0, 1, 9, 10, 11, 99};
        int[] left = {0, 0, 0, 0, 1, 89};
        for (int i = 0; i < coin.length; i++) {
            HalfCitizen x = Check.told("fine 10;man a 3 west left " + coin[i] + ";" + STRICT + "deed a lhand hold 0;");
            x.go(1);
            Check.due("coin " + coin[i], x.look(0, 4), left[i]);
            Check.due("all coin", x.count(10), left[i]);
        }
        HalfCitizen x = Check.told("fine 99;man a 3 west left 99;" + STRICT + "deed a lhand hold 0;deed a rhand hold 0;");
        x.go(1);
        Check.due("the highest fine twice", x.look(0, 4), 0);
        Check.due("both clashed", x.count(8), 2);
    }

    /** "NONE: none" */
    private static void clashOfNone() {
        HalfCitizen x = Check.told("man a 3 west left 9;law bind hour=23;law may 0;deed a lhand hold 22;"
                + "deed a lhand hold 23;");
        Check.due("none yet", x.clash(), -1);
        x.go(23);
        Check.due("one is done", x.count(7), 1);
        Check.due("none still", x.clash(), -1);
        x.go(1);
        Check.due("at HOUR 23", x.clash(), 1);
        Check.due("without deeds", Check.told("man a 3 west left 9;").clash(), -1);
    }

    /** "The first DEED (by HOURS ..)" */
    private static void clashByHours() {
        HalfCitizen x = Check.told("man a 3 west left 9;" + STRICT + "deed a lhand hold 3;deed a rhand hold 2;"
                + "deed a lfoot hold 1;"
                + "deed a rfoot hold 2;deed a rfoot hold 0;");
        int[] due = {-1, 4, 4, 4, 4};
        for (int hour = 0; hour < due.length; hour++) {
            Check.due("at " + hour, x.clash(), due[hour]);
            x.go(1);
        }
        Check.due("deed 3 is left", x.deed(3, 4), 3);
        HalfCitizen y = Check.told("man a 3 west left 9;" + STRICT + "deed a lhand hold 3;deed a rhand hold 2;"
                + "deed a lfoot hold 1;");
        y.go(24);
        Check.due("the last as told", y.clash(), 2);
    }

    /** "(.. then as told)" */
    private static void clashAsTold() {
        HalfCitizen x = Check.told("man a 3 west left 9;law bind 1;law may part=0;deed a lhand hold 3;deed a rfoot hold 3;"
                + "deed a rhand hold 3;");
        x.go(4);
        Check.due("the first that clashed", x.clash(), 1);
    }

    private static void clashOfFirstAndTwelfth() {
        StringBuilder text = new StringBuilder("man a 3 west left 9;law bind 1;law may part<>deed;");
        for (int i = 0; i < 12; i++) {
            text.append("deed a ").append(i == 0 ? "lhand" : i == 11 ? "rhand" : "rfoot");
            text.append(i == 0 ? " hold 7;" : i == 11 ? " sign 5;" : " sign 6;");
        }
        HalfCitizen x = Check.told(text.toString());
        Check.due("none of twelve", x.clash(), -1);
        x.go(5);
        Check.due("none of twelve yet", x.clash(), -1);
        x.go(1);
        Check.due("the twelfth", x.clash(), 11);
        x.go(18);
        Check.due("the twelfth still", x.clash(), 11);
        Check.due("the first clashed, too", x.deed(0, 4), 2);
        HalfCitizen y = Check.told(text.toString().replace("sign 5", "sign 7"));
        y.go(24);
        Check.due("the first", y.clash(), 0);
    }

    /** "0 he turns (north, east, south, west, north), 1 he turns the other way" */
    private static void turnsWrapAround() {
        HalfCitizen x = Check.told("man a 3 north left 9;");
        x.move(0, 2);
        x.move(0, 3);
        int[] right = {1, 2, 3, 0, 1};
        int[] left = {0, 3, 2, 1, 0, 3};
        for (int face : right) {
            Check.due("turns", x.move(0, 0), true);
            Check.due("faces", x.look(0, 1), face);
        }
        for (int face : left) {
            Check.due("turns the other way", x.move(0, 1), true);
            Check.due("faces", x.look(0, 1), face);
        }
        Check.due("nothing else changed", x.look(0, 0) * 100 + x.look(0, 2) * 10 + x.look(0, 3), 311);
    }

    /** "2 he crosses his hands or uncrosses them, 3 feet likewise" */
    private static void crossingsTwice() {
        HalfCitizen x = Check.told("man a 3 south left 9;");
        int[] moves = {2, 3, 2, 3, 3, 2, 2, 3};
        int[] due = {10, 11, 1, 0, 1, 11, 1, 0};
        for (int i = 0; i < moves.length; i++) {
            Check.due("crosses", x.move(0, moves[i]), true);
            Check.due("hands, feet behind " + i, x.look(0, 2) * 10 + x.look(0, 3), due[i]);
            Check.due("faces", x.look(0, 1), 2);
        }
    }

    /** "4 a step to the CELL less, 5 to the one more (within the street)" */
    private static void stepsWithinTheStreet() {
        for (int cells = 2; cells <= 12; cells++) {
            HalfCitizen x = Check.told("street " + cells + ";man a 0 west left 9;");
            Check.due("none below", x.move(0, 4), false);
            for (int cell = 1; cell < cells; cell++) {
                Check.due("a step more", x.move(0, 5), true);
                Check.due("at", x.look(0, 0), cell);
            }
            String ahead = Check.all(x);
            Check.due("none beyond", x.move(0, 5), false);
            Check.due("nothing changed", Check.all(x).equals(ahead), true);
            for (int cell = cells - 2; cell >= 0; cell--) {
                Check.due("a step less", x.move(0, 4), true);
                Check.due("at", x.look(0, 0), cell);
            }
            Check.due("none below", x.move(0, 4), false);
            Check.due("moves made", x.count(14), 2 * cells - 2);
        }
    }

    /** "false: no such ones" */
    private static void moveOfNone() {
        HalfCitizen x = Check.told("man a 3 west left 9;");
        String ahead = Check.all(x);
        int[] none = {-1, 6, LEAST, MOST};
        for (int n : none) {
            Check.due("move(0, " + n + ")", x.move(0, n), false);
            Check.due("move(" + n + ", 0)", x.move(n, 0), false);
        }
        Check.due("move(1, 0)", x.move(1, 0), false);
        Check.due("nothing changed", Check.all(x).equals(ahead), true);
        Check.due("nothing to undo", x.undo(), -1);
    }

    /** "A SEIZED PART is freed for the fine: true; false: .. he hasn't so much COIN" */
    private static void freeForTheFine() {
        int[] left = {9, 10, 11};
        for (int coin : left) {
            HalfCitizen x = Check.told("fine 10;man a 3 west left " + (coin + 10) + ";" + STRICT + "deed a rfoot hold 0;");
            x.go(1);
            Check.due("coin", x.look(0, 4), coin);
            Check.due("free with " + coin, x.free(0, 3), coin >= 10);
            Check.due("seized behind it", x.look(0, 6), coin >= 10 ? 0 : 8);
            Check.due("coin behind it", x.look(0, 4), coin >= 10 ? coin - 10 : coin);
            Check.due("to undo", x.count(13), coin >= 10 ? 1 : 0);
        }
        HalfCitizen x = Check.told("fine 0;man a 3 west left 0;" + STRICT + "deed a rfoot hold 0;");
        x.go(1);
        Check.due("for nothing", x.free(0, 3), true);
    }

    /** "false: no such ones, it isn't SEIZED" */
    private static void freeOfNone() {
        HalfCitizen x = Check.told("fine 1;man a 3 west left 99;man b 3 west left 99;" + STRICT + "deed a rhand hold 0;");
        x.go(1);
        String ahead = Check.all(x);
        int[] none = {-1, 4, 5, LEAST, MOST};
        for (int n : none) {
            Check.due("free(0, " + n + ")", x.free(0, n), false);
            Check.due("free(" + n + ", 1)", x.free(n, 1), false);
        }
        Check.due("free(2, 1)", x.free(2, 1), false);
        int[] others = {0, 2, 3};
        for (int part : others) {
            Check.due("not seized " + part, x.free(0, part), false);
        }
        Check.due("not of the other one", x.free(1, 1), false);
        Check.due("nothing changed", Check.all(x).equals(ahead), true);
        Check.due("freed", x.free(0, 1), true);
        Check.due("not twice", x.free(0, 1), false);
        Check.due("one fine and one price", x.look(0, 4), 97);
    }

    /** "So many HOURS (0 .. 24)": none. */
    private static void goNowhere() {
        HalfCitizen x = Check.told("man a 3 west left 9;deed a rhand hold 0;");
        String ahead = Check.all(x);
        Check.due("go(0)", x.go(0), 0);
        Check.due("nothing changed", Check.all(x).equals(ahead), true);
    }

    /** "So many HOURS (.. 24)": all. */
    private static void goToTheEnd() {
        HalfCitizen x = Check.told("man a 3 west left 9;deed a rhand hold 23;deed a rhand hold 0;");
        Check.due("go(24)", x.go(24), 24);
        Check.due("all are done", x.count(7), 2);
        Check.due("the hour", x.count(6), 24);
        Check.due("go(0) at the end", x.go(0), 24);
        HalfCitizen y = Check.told("man a 3 west left 9;");
        for (int hour = 1; hour <= 24; hour++) {
            Check.due("hour by hour", y.go(1), hour);
        }
    }

    /** "NONE, and none does: .. the DAY has not so many left" */
    private static void goBeyondTheEnd() {
        HalfCitizen x = Check.told("man a 3 west left 99;deed a rhand hold 23;law tax 1;");
        Check.due("go(23)", x.go(23), 23);
        String ahead = Check.all(x);
        Check.due("go(2) at 23", x.go(2), -1);
        Check.due("go(24) at 23", x.go(24), -1);
        Check.due("none does", Check.all(x).equals(ahead), true);
        Check.due("go(1) at 23", x.go(1), 24);
        ahead = Check.all(x);
        Check.due("go(1) at 24", x.go(1), -1);
        Check.due("go(24) at 24", x.go(24), -1);
        Check.due("none does", Check.all(x).equals(ahead), true);
        HalfCitizen y = Check.told("man a 3 west left 99;");
        y.go(1);
        Check.due("go(24) at 1", y.go(24), -1);
        Check.due("go(23) at 1", y.go(23), 24);
    }

    /** "NONE, and none does: no such number" */
    private static void goOfNoNumber() {
        HalfCitizen x = Check.told("man a 3 west left 9;deed a rhand hold 0;");
        x.move(0, 0);
        String ahead = Check.all(x);
        int[] none = {-1, 25, LEAST, MOST};
        for (int n : none) {
            Check.due("go(" + n + ")", x.go(n), -1);
        }
        Check.due("none does", Check.all(x).equals(ahead), true);
        Check.due("what can be undone stays", x.undo(), 0);
    }

    /** DEEDS of HOUR 0 and of HOUR 23 are done in these, by laws of these. */
    private static void firstAndLastHour() {
        HalfCitizen x = Check.told("man a 3 west left 9;law bind 1;law may hour=0 or hour=23;deed a rhand hold 0;"
                + "deed a lhand hold 1;deed a lfoot hold 22;deed a rfoot hold 23;");
        x.go(24);
        int[] due = {1, 2, 2, 1};
        for (int d = 0; d < due.length; d++) {
            Check.due("deed " + d, x.deed(d, 4), due[d]);
        }
    }

    /** "Behind HOUR 23": not ahead of it, and not again. */
    private static void taxOnce() {
        HalfCitizen x = Check.told("man a 3 west left 99;man b 3 west left 10;law tax part;fine 50;deed a lhand hit 23;");
        x.go(23);
        Check.due("not ahead", x.count(10), 109);
        x.go(1);
        Check.due("behind the deeds of 23", x.look(0, 4), 43);
        Check.due("of each man", x.look(1, 4), 4);
        x.go(0);
        x.go(1);
        Check.due("not again", x.count(10), 47);
    }

    private static int taxed(String tax, int coin) {
        HalfCitizen x = Check.told("man a 3 north left " + coin + ";law tax " + tax + ";");
        x.go(24);
        return x.look(0, 4);
    }

    /** "E of tax (0 .. 9; 0 without, with an ERROR)" */
    private static void taxAtItsBounds() {
        Check.due("0", taxed("0", 99), 99);
        Check.due("1", taxed("1", 99), 95);
        Check.due("9", taxed("9", 99), 63);
        Check.due("10 is 9", taxed("10", 99), 63);
        Check.due("10 to the 12 is 9", taxed("1000*1000*1000*1000", 99), 63);
        Check.due("a number that wraps around as an int is 9", taxed("4096*4096*256", 99), 63);
        Check.due("1 below 0 is 0", taxed("0-1", 99), 99);
        Check.due("far below 0 is 0", taxed("(0-1000)*1000*1000*1000", 99), 99);
        Check.due("an error is 0", taxed("1/0", 99), 99);
        Check.due("an error of one part", taxed("6/part", 99), 99 - 6 - 3 - 2);
        Check.due("beyond the most is an error", taxed("1000*1000*1000*1001", 99), 99);
        HalfCitizen x = Check.told("man a 3 north left 99;");
        x.go(24);
        Check.due("without", x.look(0, 4), 99);
    }

    /** "is paid, as far as COIN goes" */
    private static void taxAsFarAsItGoes() {
        Check.due("none to pay", taxed("9", 0), 0);
        Check.due("less than one part's", taxed("9", 8), 0);
        Check.due("one less than all", taxed("9", 35), 0);
        Check.due("all", taxed("9", 36), 0);
        Check.due("one more", taxed("9", 37), 1);
        Check.due("parts that pay nothing", taxed("(part=3)*5", 3), 0);
    }

    /** "deed: .. (of bind, tax 0)", and what the other NAMES are then. */
    private static void taxOfThatHour() {
        Check.due("deed", taxed("deed+1", 99), 95);
        Check.due("where", taxed("where=9", 99), 95);
        HalfCitizen x = Check.told("street 4;land l 2 2;man a 1 north right 99;law tax (where=0)*4+cross*2+side;");
        x.move(0, 2);
        x.go(24);
        Check.due("lhand in l, crossed, side 1: 7; rhand crossed: 2; lfoot side 1: 1; rfoot in l: 4", x.look(0, 4), 85);
    }
}
