/** Promises 16 to 26 at their bounds, with what part 3 says of FEWEST, JOINT, MATCH, LOOPHOLES, DUELS and FREED. */
public final class SearchBoundsTest {
    private static final int LEAST = Integer.MIN_VALUE;
    private static final int MOST = Integer.MAX_VALUE;
    private static final String STRICT = "law bind 1;law may 0;";

    public static void main(String[] args) {
        noMoveAtAll();
        thirteenMoves();
        firstOfSeveralRows();
        fewestByNone();
        fewestThoughSeized();
        fewestOfNone();
        wayBeyondItsEnd();
        jointAtMostOneApart();
        jointOutside();
        jointSum();
        jointByNone();
        jointOfNone();
        standsEverywhere();
        standsNowhere();
        matchJustEnough();
        matchOfNone();
        loopholesByAll();
        loopholesOfFirstState();
        loopholesOfWholeStreet();
        loopholeOfNone();
        Check.end();
    }

    /** FEWEST where the DEED is LAWFUL as he stands; "-2: there are no so many" of none. */
    private static void noMoveAtAll() {
        HalfCitizen x = Check.told("man a 3 west left 0;");
        Check.due("none", x.fewest(0, 1, 2), 0);
        Check.due("no first", x.way(0, 1, 2, 0), -2);
        Check.due("the last part, the last kind", x.fewest(0, 3, 3), 0);
    }

    /** From one end of the longest street to the other, with two turns and a crossing. */
    private static void thirteenMoves() {
        HalfCitizen x = Check.told("street 12;land l 11 11;man a 0 north left 0;law bind 1;"
                + "law may where=0 and face=2 and cross;");
        int[] way = {0, 0, 2, 5, 5, 5, 5, 5, 5, 5, 5, 5, 5};
        Check.due("fewest", x.fewest(0, 1, 0), 13);
        for (int k = 0; k < way.length; k++) {
            Check.due("move " + k, x.way(0, 1, 0, k), way[k]);
        }
        Check.due("no fourteenth", x.way(0, 1, 0, 13), -2);
        for (int move : way) {
            x.move(0, move);
        }
        Check.due("there he is", x.fewest(0, 1, 0), 0);
    }

    /** "of several rows of MOVES the first, MOVE by MOVE" */
    private static void firstOfSeveralRows() {
        rowIs("face=2", "north", "00");
        rowIs("face=0", "south", "00");
        rowIs("face=3", "north", "1");
        rowIs("face=1", "north", "0");
        rowIs("face=3 or face=1", "north", "0");
        rowIs("face=1 or cross", "north", "0");
        rowIs("face=2 or cross", "north", "2");
        rowIs("where=0", "west", "1");
        rowIs("where=1", "west", "0");
        rowIs("where=0 and face=3", "west", "4");
        rowIs("where=1 and face=3", "west", "5");
        rowIs("where<9 and face=3", "west", "4");
        rowIs("where=0 or where=1", "west", "0");
        rowIs("where=1 and face=0", "west", "0");
        rowIs("where=1 and face=3", "north", "15");
        rowIs("where=1 and cross", "west", "12");
        rowIs("where=0 and face=1", "west", "004");
        rowIs("where=0 and face=2 and cross", "north", "00244");
    }

    /** He stands in cell 3, between land 0 (cells 0 to 2) and land 1 (cells 4 to 6); his right hand is asked for. */
    private static void rowIs(String may, String face, String row) {
        HalfCitizen x = Check.told("street 7;land l 0 2;land k 4 6;man a 3 " + face + " left 0;law bind 1;"
                + "law may " + may + ";");
        Check.due("fewest of " + may, x.fewest(0, 1, 0), row.length());
        for (int k = 0; k < row.length(); k++) {
            Check.due("move " + k + " of " + may, x.way(0, 1, 0, k), row.charAt(k) - '0');
        }
        Check.due("no more of " + may, x.way(0, 1, 0, row.length()), -2);
    }

    /** "-2: by none" */
    private static void fewestByNone() {
        HalfCitizen x = Check.told("man a 3 west left 0;law bind 1;law may hour=1 and part=0 and deed=1;");
        Check.due("not at this hour", x.fewest(0, 0, 1), -2);
        Check.due("no way", x.way(0, 0, 1, 0), -2);
        x.go(1);
        Check.due("at this one", x.fewest(0, 0, 1), 0);
        Check.due("not another part", x.fewest(0, 1, 1), -2);
        Check.due("not another kind", x.fewest(0, 0, 2), -2);
        HalfCitizen y = Check.told("street 2;land l 0 1;bar l lhand;man a 0 east left 0;law bind 0;");
        Check.due("outside the street", y.fewest(0, 0, 0), 1);
        Check.due("by the other turn", y.way(0, 0, 0, 0), 1);
        HalfCitizen z = Check.told("land l 0 7;bar l lhand;man a 0 east left 0;law bind 1;law may face=1 or face=3;");
        Check.due("barred wherever he may", z.fewest(0, 0, 0), -2);
    }

    /** "(as if nothing were SEIZED, at the HOUR of now)" */
    private static void fewestThoughSeized() {
        HalfCitizen x = Check.told("man a 3 west left 0;law bind 1;law may hour>0;deed a lhand hold 0;");
        Check.due("not yet", x.fewest(0, 0, 0), -2);
        x.go(1);
        Check.due("seized", x.part(0, 0, 5), 1);
        Check.due("as if it weren't", x.fewest(0, 0, 0), 0);
    }

    /** "NONE: no such ones" */
    private static void fewestOfNone() {
        HalfCitizen x = Check.told("man a 3 west left 0;");
        int[] none = {-1, 4, LEAST, MOST};
        for (int n : none) {
            Check.due("fewest(" + n + ", 0, 0)", x.fewest(n, 0, 0), -1);
            Check.due("fewest(0, " + n + ", 0)", x.fewest(0, n, 0), -1);
            Check.due("fewest(0, 0, " + n + ")", x.fewest(0, 0, n), -1);
            Check.due("way(" + n + ", 0, 0, 0)", x.way(n, 0, 0, 0), -1);
            Check.due("way(0, " + n + ", 0, 0)", x.way(0, n, 0, 0), -1);
            Check.due("way(0, 0, " + n + ", 0)", x.way(0, 0, n, 0), -1);
        }
        Check.due("fewest(1, 0, 0)", x.fewest(1, 0, 0), -1);
        Check.due("way(1, 0, 0, 0)", x.way(1, 0, 0, 0), -1);
    }

    /** "-2: there are no so many"; a k below 0 is none such. */
    private static void wayBeyondItsEnd() {
        HalfCitizen x = Check.told("man a 3 west left 0;law bind 1;law may face=1;");
        Check.due("the last", x.way(0, 0, 0, 1), 0);
        Check.due("behind it", x.way(0, 0, 0, 2), -2);
        Check.due("far behind it", x.way(0, 0, 0, MOST), -2);
        Check.due("ahead of the first", x.way(0, 0, 0, -1), -1);
        Check.due("far ahead of it", x.way(0, 0, 0, LEAST), -1);
        Check.due("he hasn't moved", x.look(0, 1), 3);
    }

    /** "their PLACES at most 1 apart": lhand in land 0 alone, rhand in land 1 alone. */
    private static void jointAtMostOneApart() {
        String laws = "law bind 1;law may part=where;";
        for (int apart = 1; apart < 4; apart++) {
            HalfCitizen x = Check.told("street 6;land l 1 1;land k " + (1 + apart) + " " + (1 + apart)
                    + ";man a 1 west left 0;man b " + (1 + apart) + " west left 0;" + laws);
            Check.due("apart by " + apart, x.joint(0, 0, 1, 1, 0), apart == 1 ? 0 : -2);
            Check.due("the other way round", x.joint(1, 1, 0, 0, 0), apart == 1 ? 0 : -2);
        }
        HalfCitizen x = Check.told("man a 3 west left 0;man b 3 east right 0;");
        Check.due("not apart", x.joint(0, 0, 1, 0, 0), 0);
    }

    /** PLACES outside the street are PLACES, too. */
    private static void jointOutside() {
        String text = "street 4;land l 0 3;bar l lhand;bar l rhand;law bind 0;";
        HalfCitizen x = Check.told(text + "man a 0 north left 0;man b 0 north left 0;");
        Check.due("both one less than 0", x.joint(0, 0, 1, 0, 0), 0);
        Check.due("outside and in the first cell", x.joint(0, 0, 1, 2, 0), 0);
        Check.due("one hand has to cross", x.joint(0, 1, 1, 0, 0), 1);
        HalfCitizen y = Check.told(text + "man a 3 south left 0;man b 3 north left 0;");
        Check.due("both at LONG", y.joint(0, 0, 1, 1, 0), 0);
        Check.due("LONG and LONG less 1", y.joint(0, 0, 1, 2, 0), 1);
        HalfCitizen z = Check.told("street 12;land l 0 11;bar l lhand;law bind 1;law may face=0 and cross;"
                + "man a 11 north left 0;man b 11 north left 0;");
        Check.due("both in cell 12 of twelve", z.joint(0, 0, 1, 0, 0), 2);
        HalfCitizen w = Check.told("street 12;land l 11 11;law bind 1;law may where=0;man a 11 west left 0;"
                + "man b 8 west left 0;");
        Check.due("both in cell 11 of twelve", w.joint(0, 0, 1, 0, 0), 3);
    }

    /** "the fewest MOVES of both in sum" */
    private static void jointSum() {
        HalfCitizen x = Check.told("street 12;man a 0 west left 0;man b 11 west left 0;law bind 0;");
        Check.due("the whole street", x.joint(0, 0, 1, 0, 0), 10);
        for (int i = 0; i < 5; i++) {
            x.move(0, 5);
        }
        Check.due("half of it", x.joint(0, 0, 1, 0, 0), 5);
        HalfCitizen y = Check.told("street 12;man a 0 east left 0;man b 4 east left 0;law bind 1;law may face=0;");
        Check.due("a turn of both, and a right hand beside a left one", y.joint(0, 1, 1, 0, 0), 3);
        Check.due("two left ones: one crosses", y.joint(0, 0, 1, 0, 0), 4);
        HalfCitizen z = Check.told("man a 3 north left 0;man b 3 south left 0;law bind 1;law may face=0;");
        Check.due("one of them alone", z.joint(0, 0, 1, 0, 0), 2);
    }

    /** "-2: by none" */
    private static void jointByNone() {
        HalfCitizen x = Check.told("man a 3 west left 0;man b 3 west left 0;law bind side=0;law may 0;");
        Check.due("both may", x.joint(0, 1, 1, 1, 0), 0);
        Check.due("the one may not", x.joint(0, 0, 1, 1, 0), -2);
        Check.due("the other one may not", x.joint(0, 1, 1, 0, 0), -2);
        Check.due("neither may", x.joint(0, 2, 1, 2, 0), -2);
    }

    /** "NONE: no such ones, alike MEN" */
    private static void jointOfNone() {
        HalfCitizen x = Check.told("man a 3 west left 0;man b 3 west left 0;");
        int[] none = {-1, 4, LEAST, MOST};
        for (int n : none) {
            Check.due("one " + n, x.joint(n, 0, 1, 0, 0), -1);
            Check.due("part " + n, x.joint(0, n, 1, 0, 0), -1);
            Check.due("other " + n, x.joint(0, 0, n, 0, 0), -1);
            Check.due("otherPart " + n, x.joint(0, 0, 1, n, 0), -1);
            Check.due("kind " + n, x.joint(0, 0, 1, 0, n), -1);
        }
        Check.due("one 2", x.joint(2, 0, 1, 0, 0), -1);
        Check.due("other 2", x.joint(0, 0, 2, 0, 0), -1);
        Check.due("alike", x.joint(0, 0, 0, 1, 0), -1);
        Check.due("alike, the last", x.joint(1, 3, 1, 3, 3), -1);
        Check.due("the last ones", x.joint(0, 3, 1, 3, 3), 0);
    }

    /** "CELLS (bits)": from the first to the last. */
    private static void standsEverywhere() {
        for (int cells = 2; cells <= 12; cells++) {
            HalfCitizen x = Check.told("street " + cells + ";man a 0 west left 0;law bind 1;law may 0;");
            Check.due("stands", x.stands(0), (1 << cells) - 1);
        }
        HalfCitizen x = Check.told("street 12;land l 0 11;bar l lhand;man a 5 west left 0;");
        Check.due("a hand outside at either end", x.stands(0), 1 | 1 << 11);
        HalfCitizen y = Check.told("street 12;land l 0 11;bar l rhand;bar l rfoot;man a 5 west left 0;");
        Check.due("a hand and a foot there", y.stands(0), 1 | 1 << 11);
        int[] none = {-1, 1, LEAST, MOST};
        for (int n : none) {
            Check.due("stands(" + n + ")", x.stands(n), -1);
        }
    }

    /** "where a MAN has some STATE with no PART BARRED": no bit. */
    private static void standsNowhere() {
        HalfCitizen x = Check.told("street 3;land l 0 2;bar l lfoot;bar l rfoot;man a 1 west left 0;");
        Check.due("nowhere", x.stands(0), 0);
        Check.due("no match", x.match(0), -2);
        HalfCitizen y = Check.told("street 3;land l 0 2;land k 1 1;bar l lfoot;bar l rfoot;man a 1 west left 0;");
        Check.due("in the cell of another land, and beside it", y.stands(0), 7);
        HalfCitizen z = Check.told("street 3;land l 0 2;bar l lhand;bar l lfoot;bar l rhand;bar l rfoot;"
                + "man a 1 west left 0;");
        Check.due("all barred", z.stands(0), 0);
    }

    /** "unlike CELLS for all MEN"; "-2: there is none" */
    private static void matchJustEnough() {
        String five = "man p 0 west left 0;man q 0 west left 0;man r 0 west left 0;man s 0 west left 0;man t 0 west left 0;";
        HalfCitizen x = Check.told("street 5;" + five);
        HalfCitizen y = Check.told("street 4;" + five);
        HalfCitizen z = Check.told("street 11;land l 0 10;land k 2 2;land m 5 5;land n 9 9;bar l lhand;" + five);
        int[] gaps = {0, 1, 2, 3, 4};
        for (int man = 0; man < 5; man++) {
            Check.due("as many cells as men", x.match(man), man);
            Check.due("one less", y.match(man), -2);
            Check.due("around the gaps in l", z.match(man), gaps[man]);
        }
        HalfCitizen w = Check.told("street 6;land l 0 2;bar l lhand;bar l rhand;bar l lfoot;bar l rfoot;man a 0 west left 0;"
                + "man b 0 west left 0;");
        Check.due("those of l are left out", w.match(0) * 10 + w.match(1), 34);
    }

    /** "NONE: no such MAN": also where there is no MATCH. */
    private static void matchOfNone() {
        HalfCitizen x = Check.told("street 2;man a 0 west left 0;man b 0 west left 0;");
        HalfCitizen y = Check.told("street 2;land l 0 1;bar l lhand;bar l rhand;man a 0 west left 0;man b 0 west left 0;");
        Check.due("one match", x.match(0) * 10 + x.match(1), 1);
        Check.due("none", y.match(0), -2);
        int[] none = {-1, 2, LEAST, MOST};
        for (int n : none) {
            Check.due("match(" + n + ")", x.match(n), -1);
            Check.due("match(" + n + ") where there is none", y.match(n), -1);
        }
    }

    /** "in order by CELL, FACE, hands, feet (uncrossed ahead of crossed)": from the first to the last. */
    private static void loopholesByAll() {
        HalfCitizen x = Check.told("street 12;man a 5 north left 0;law bind 1;law may cross;");
        Check.due("all with something crossed", x.loopholes(0, 0), 144);
        int k = 0;
        for (int state = 0; state < 192; state++) {
            if (state % 4 != 0) {
                Check.due("loophole " + k, x.loophole(0, 0, k), state);
                k++;
            }
        }
        Check.due("the last", x.loophole(0, 0, 143), 191);
        Check.due("behind it", x.loophole(0, 0, 144), -2);
        Check.due("far behind it", x.loophole(0, 0, MOST), -2);
        Check.due("ahead of the first", x.loophole(0, 0, -1), -1);
        Check.due("far ahead of it", x.loophole(0, 0, LEAST), -1);
        HalfCitizen y = Check.told("street 2;man a 0 north left 0;law bind 0;");
        Check.due("none", y.loopholes(0, 0), 0);
        Check.due("no first", y.loophole(0, 0, 0), -2);
    }

    /** "by some PART by which it isn't in his first STATE (as the TEXT begins)" */
    private static void loopholesOfFirstState() {
        HalfCitizen x = Check.told("street 2;man a 0 north left 0;law bind 1;law may part=1 or part=0 and cross;");
        Check.due("the right hand is none", x.loopholes(0, 0), 16);
        Check.due("hands crossed", x.loophole(0, 0, 0), 2);
        Check.due("then feet, too", x.loophole(0, 0, 1), 3);
        x.move(0, 2);
        x.move(0, 0);
        x.move(0, 5);
        Check.due("as the text begins", x.loopholes(0, 0), 16);
        HalfCitizen y = Check.told("street 2;man a 0 south left 0;law bind 1;law may face=2;");
        Check.due("all is lawful in the first state", y.loopholes(0, 0), 0);
        HalfCitizen z = Check.told("street 2;man a 0 south left 0;law bind 1;law may face<>2 and deed=3;");
        Check.due("all but those of his face", z.loopholes(0, 3), 24);
        Check.due("not of another kind", z.loopholes(0, 2), 0);
        Check.due("the last", z.loophole(0, 3, 23), 31);
    }

    /** From the first STATE of the first CELL to the last CELL, and none behind it. */
    private static void loopholesOfWholeStreet() {
        int[] streets = {2, 8, 12};
        for (int cells : streets) {
            String text = "street " + cells + ";man a 0 south left 0;law bind 1;";
            HalfCitizen x = Check.told(text + "law may face=0;");
            Check.due("facing north", x.loopholes(0, 0), 4 * cells);
            Check.due("the first", x.loophole(0, 0, 0), 0);
            Check.due("the last", x.loophole(0, 0, 4 * cells - 1), 16 * cells - 13);
            Check.due("behind it", x.loophole(0, 0, 4 * cells), -2);
            HalfCitizen y = Check.told(text + "law may face=3;");
            Check.due("facing west", y.loopholes(0, 0), 4 * cells);
            Check.due("the first", y.loophole(0, 0, 0), 12);
            Check.due("the last", y.loophole(0, 0, 4 * cells - 1), 16 * cells - 1);
        }
    }

    /** "NONE: no such ones" */
    private static void loopholeOfNone() {
        HalfCitizen x = Check.told("man a 3 west left 0;law bind 1;law may cross;");
        int[] none = {-1, 4, LEAST, MOST};
        for (int n : none) {
            Check.due("loopholes(" + n + ", 0)", x.loopholes(n, 0), -1);
            Check.due("loopholes(0, " + n + ")", x.loopholes(0, n), -1);
            Check.due("loophole(" + n + ", 0, 0)", x.loophole(n, 0, 0), -1);
            Check.due("loophole(0, " + n + ", 0)", x.loophole(0, n, 0), -1);
            Check.due("shut(" + n + ", 0)", x.shut(n, 0), -1);
            Check.due("shut(0, " + n + ")", x.shut(0, n), -1);
        }
        Check.due("loopholes(1, 0)", x.loopholes(1, 0), -1);
        Check.due("loophole(1, 0, 0)", x.loophole(1, 0, 0), -1);
        Check.due("shut(1, 0)", x.shut(1, 0), -1);
        Check.due("the last kind", x.loopholes(0, 3), 96);
    }
}
