import java.util.NoSuchElementException;

/** Promises 6 to 10 at their bounds, with what part 2 says of PLACES, sides, laws and VALUES. */
public final class StateBoundsTest {
    private static final long ERROR = Long.MIN_VALUE;
    private static final int LEAST = Integer.MIN_VALUE;
    private static final int MOST = Integer.MAX_VALUE;
    private static final String MAN = "man a 0 north left 0;";
    /** 10 to the 12, and that with a sign ahead. */
    private static final String TOP = "1000*1000*1000*1000";
    private static final String BOTTOM = "(0-1000)*1000*1000*1000";

    public static void main(String[] args) {
        lookOfNoMan();
        lookAtNoWhat();
        lookAtSeized();
        landOfNoCell();
        placesOutside();
        placesByFace();
        lawSides();
        boundIsOneOrNone();
        barredIsOneOrNone();
        partOfNone();
        lawfulOfNone();
        boundWithoutLaw();
        boundWithError();
        mayWithoutLaw();
        mayWithError();
        lawOfNone();
        kindNotLookedAt();
        deedOfBind();
        namesOfLaws();
        valuesAtTheirMost();
        valuesInBetween();
        productsThatWrapAround();
        divisions();
        onesAndNoughts();
        Check.end();
    }

    private static String thrown(HalfCitizen x, int man, int what) {
        try {
            x.look(man, what);
            return "nothing";
        } catch (IndexOutOfBoundsException e) {
            return e.getClass() == IndexOutOfBoundsException.class ? "no man" : "by the machine";
        } catch (NoSuchElementException e) {
            return "no what";
        }
    }

    private static void throwing(HalfCitizen x, int man, int what, String due) {
        String got = thrown(x, man, what);
        Check.due("look(" + man + ", " + what + ") throws " + got + ", due is " + due, got.equals(due), true);
    }

    /** "IndexOutOfBoundsException: no such MAN" */
    private static void lookOfNoMan() {
        throwing(new HalfCitizen(), 0, 0, "no man");
        HalfCitizen x = Check.told(MAN + "man b 7 west right 99;");
        int[] none = {-1, 2, 4, 5, LEAST, MOST};
        for (int man : none) {
            throwing(x, man, 0, "no man");
            throwing(x, man, 7, "no man");
        }
        throwing(x, 1, 0, "nothing");
        Check.due("all that is of the last one", x.look(1, 0) * 1000 + x.look(1, 1) * 100 + x.look(1, 4) + x.look(1,
                5), 7400);
    }

    /** "NoSuchElementException: no such what" */
    private static void lookAtNoWhat() {
        HalfCitizen x = Check.told(MAN);
        int[] none = {-1, 7, LEAST, MOST};
        for (int what : none) {
            throwing(x, 0, what, "no what");
        }
        throwing(x, 0, 6, "nothing");
        throwing(x, 0, 0, "nothing");
    }

    /** "6 SEIZED PARTS (bits)": from none to all four. */
    private static void lookAtSeized() {
        HalfCitizen x = Check.told("man a 3 west left 99;law bind 1;law may 0;deed a rhand hold 0;deed a rfoot hold 1;"
                + "deed a lhand hold 2;deed a lfoot hold 3;");
        int[] seized = {0, 2, 10, 11, 15};
        for (int hour = 0; hour < seized.length; hour++) {
            Check.due("seized at " + hour, x.look(0, 6), seized[hour]);
            for (int part = 0; part < 4; part++) {
                Check.due("part " + part + " at " + hour, x.part(0, part, 5), seized[hour] >> part & 1);
            }
            x.go(1);
        }
    }

    /** "-2: none; NONE: no such CELL" */
    private static void landOfNoCell() {
        HalfCitizen x = Check.told("street 12;land l 0 0;land k 11 11;");
        int[] none = {-1, 12, 13, LEAST, MOST};
        for (int cell : none) {
            Check.due("land(" + cell + ")", x.land(cell), -1);
        }
        Check.due("the first cell", x.land(0), 0);
        Check.due("between", x.land(1) + x.land(10), -4);
        Check.due("the last cell", x.land(11), 1);
        Check.due("cell 8 of eight", Check.told("land l 0 7;").land(8), -1);
    }

    /** "0 its PLACE (-1 .. LONG), 1 its LAND (9: none)"; "A PLACE outside the street is of no LAND." */
    private static void placesOutside() {
        HalfCitizen x = Check.told("street 2;land l 0 1;bar l lhand;bar l rhand;bar l lfoot;bar l rfoot;"
                + "man a 0 north left 0;man b 1 north left 0;law tax where;");
        int[][] due = {{-1, 1, -1, 1}, {0, 2, 0, 2}};
        for (int man = 0; man < 2; man++) {
            for (int part = 0; part < 4; part++) {
                boolean outside = due[man][part] < 0 || due[man][part] > 1;
                Check.due("place", x.part(man, part, 0), due[man][part]);
                Check.due("land", x.part(man, part, 1), outside ? 9 : 0);
                Check.due("barred", x.part(man, part, 4), outside ? 0 : 1);
                Check.due("where", x.law(2, man, part, 0), outside ? 9 : 0);
                Check.due("lawful", x.lawful(man, part, 0), outside ? 1 : 0);
            }
        }
        HalfCitizen y = Check.told("street 12;man a 11 north left 0;");
        Check.due("LONG", y.part(0, 1, 0), 12);
    }

    /** "north: left ones one CELL less .. south: the other way round; east, west: his CELL" */
    private static void placesByFace() {
        String[] faces = {"north", "east", "south", "west"};
        int[] left = {3, 4, 5, 4};
        for (int face = 0; face < 4; face++) {
            HalfCitizen x = Check.told("man a 4 " + faces[face] + " left 0;");
            for (int state = 0; state < 4; state++) {
                for (int part = 0; part < 4; part++) {
                    int turned = part % 2 + (part < 2 ? x.look(0, 2) : x.look(0, 3));
                    Check.due("place of " + part + " facing " + face + " in " + state, x.part(0, part, 0),
                            turned % 2 == 0 ? left[face] : 8 - left[face]);
                }
                x.move(0, state % 2 == 0 ? 2 : 3);
            }
        }
    }

    /** "LAW SIDE: 0 of left PARTS, 1 of right ones; the other way round, if his heart is on the right." */
    private static void lawSides() {
        HalfCitizen x = Check.told("man a 4 north left 0;man b 4 south right 0;");
        for (int part = 0; part < 4; part++) {
            Check.due("heart on the left", x.part(0, part, 2), part % 2);
            Check.due("heart on the right", x.part(1, part, 2), 1 - part % 2);
        }
        x.move(0, 2);
        x.move(0, 3);
        Check.due("crossing changes no side", x.part(0, 0, 2) * 10 + x.part(0, 3, 2), 1);
    }

    /** "BOUND: E of bind isn't 0": 1 or 0, whatever E is. */
    private static void boundIsOneOrNone() {
        String[] laws = {"0", "1", "9999", "0-1", "0*5", "1/2"};
        int[] due = {0, 1, 1, 1, 0, 0};
        for (int i = 0; i < laws.length; i++) {
            HalfCitizen x = Check.told(MAN + "law bind " + laws[i] + ";law may 0;");
            for (int part = 0; part < 4; part++) {
                Check.due("bound by " + laws[i], x.part(0, part, 3), due[i]);
                Check.due("lawful by " + laws[i], x.lawful(0, part, 0), 1 - due[i]);
            }
        }
    }

    /** "BARRED: the PART's PLACE is of a LAND that bars it." */
    private static void barredIsOneOrNone() {
        HalfCitizen x = Check.told("street 6;land l 2 3;land k 3 3;bar l lhand;bar k rhand;man a 3 west left 0;"
                + "man b 2 west left 0;man c 1 west left 0;law bind 0;");
        int[][] due = {{0, 1, 0, 0}, {1, 0, 0, 0}, {0, 0, 0, 0}};
        for (int man = 0; man < 3; man++) {
            for (int part = 0; part < 4; part++) {
                Check.due("barred " + man + " " + part, x.part(man, part, 4), due[man][part]);
                Check.due("lawful " + man + " " + part, x.lawful(man, part, 2), 1 - due[man][part]);
            }
        }
    }

    /** "-2: no such ones" */
    private static void partOfNone() {
        HalfCitizen x = Check.told(MAN);
        int[] none = {-1, 6, LEAST, MOST};
        for (int n : none) {
            Check.due("part(" + n + ", 0, 0)", x.part(n, 0, 0), -2);
            Check.due("part(0, " + n + ", 0)", x.part(0, n, 0), -2);
            Check.due("part(0, 0, " + n + ")", x.part(0, 0, n), -2);
        }
        Check.due("part(1, 0, 0)", x.part(1, 0, 0), -2);
        Check.due("part(0, 4, 0)", x.part(0, 4, 0), -2);
        Check.due("the last part, the last what", x.part(0, 3, 5), 0);
    }

    /** "NONE: no such ones" */
    private static void lawfulOfNone() {
        HalfCitizen x = Check.told(MAN);
        int[] none = {-1, 4, LEAST, MOST};
        for (int n : none) {
            Check.due("lawful(" + n + ", 0, 0)", x.lawful(n, 0, 0), -1);
            Check.due("lawful(0, " + n + ", 0)", x.lawful(0, n, 0), -1);
            Check.due("lawful(0, 0, " + n + ")", x.lawful(0, 0, n), -1);
        }
        Check.due("lawful(1, 0, 0)", x.lawful(1, 0, 0), -1);
        Check.due("the last part, the last kind", x.lawful(0, 3, 3), 1);
    }

    /** "(LAW SIDE is 0 without ..)" */
    private static void boundWithoutLaw() {
        HalfCitizen x = Check.told("man a 4 west left 0;man b 4 west right 0;law may 0;law tax 1;");
        for (int part = 0; part < 4; part++) {
            Check.due("heart on the left", x.part(0, part, 3), 1 - part % 2);
            Check.due("heart on the right", x.part(1, part, 3), part % 2);
            Check.due("lawful, if not bound", x.lawful(0, part, 0), part % 2);
        }
    }

    /** "(.. with an ERROR)": at HOUR 0, and not at the next ones. */
    private static void boundWithError() {
        HalfCitizen x = Check.told("man a 4 west left 0;law bind 1/hour;law may 0;");
        int[][] due = {{1, 0, 1, 0}, {1, 1, 1, 1}, {0, 0, 0, 0}};
        for (int hour = 0; hour < 3; hour++) {
            for (int part = 0; part < 4; part++) {
                Check.due("bound at " + hour, x.part(0, part, 3), due[hour][part]);
                Check.due("lawful at " + hour, x.lawful(0, part, 1), 1 - due[hour][part]);
            }
            x.go(1);
        }
    }

    /** "MAY a DEED: E of may isn't 0 (KIND isn't hit without ..)" */
    private static void mayWithoutLaw() {
        HalfCitizen x = Check.told(MAN + "law bind 1;");
        HalfCitizen y = Check.told(MAN + "law bind 1;law may 0-(deed=3);");
        for (int kind = 0; kind < 4; kind++) {
            Check.due("without, kind " + kind, x.lawful(0, 1, kind), kind == 2 ? 0 : 1);
            Check.due("below 0 isn't 0, kind " + kind, y.lawful(0, 1, kind), kind == 3 ? 1 : 0);
        }
    }

    /** "(.. with an ERROR)" */
    private static void mayWithError() {
        HalfCitizen x = Check.told(MAN + "law bind 1;law may 1/hour;");
        int[][] due = {{1, 1, 0, 1}, {1, 1, 1, 1}, {0, 0, 0, 0}};
        for (int hour = 0; hour < 3; hour++) {
            for (int kind = 0; kind < 4; kind++) {
                Check.due("lawful at " + hour + ", kind " + kind, x.lawful(0, 0, kind), due[hour][kind]);
            }
            x.go(1);
        }
    }

    /** "Long.MIN_VALUE: an ERROR, no such law, no such ones" */
    private static void lawOfNone() {
        HalfCitizen x = Check.told(MAN + "law bind 1;law may 2;law tax 3;");
        int[] none = {-1, 4, LEAST, MOST};
        for (int n : none) {
            Check.due("law(" + n + ", 0, 0, 0)", x.law(n, 0, 0, 0), ERROR);
            for (int what = 0; what < 3; what++) {
                Check.due("law of man " + n, x.law(what, n, 0, 0), ERROR);
                Check.due("law of part " + n, x.law(what, 0, n, 0), ERROR);
            }
            Check.due("may of kind " + n, x.law(1, 0, 0, n), ERROR);
        }
        Check.due("law(3, 0, 0, 0)", x.law(3, 0, 0, 0), ERROR);
        Check.due("law(0, 1, 0, 0)", x.law(0, 1, 0, 0), ERROR);
        for (int what = 0; what < 3; what++) {
            Check.due("law " + what + " of the last part", x.law(what, 0, 3, 3), what + 1);
            Check.due("an error of " + what, Check.told(MAN + "law bind 1/0;law may 1/0;law tax 1/0;").law(what, 0,
                    0, 0), ERROR);
            Check.due("no law " + what, Check.told(MAN).law(what, 0, 0, 0), ERROR);
        }
    }

    /** "(of 0, 2 the KIND isn't looked at)" */
    private static void kindNotLookedAt() {
        HalfCitizen x = Check.told(MAN + "law bind deed+1;law may deed+2;law tax deed+3;");
        int[] kinds = {LEAST, -1, 0, 3, 4, MOST};
        for (int kind : kinds) {
            Check.due("bind of kind " + kind, x.law(0, 0, 0, kind), 1);
            Check.due("tax of kind " + kind, x.law(2, 0, 0, kind), 3);
            Check.due("may of kind " + kind, x.law(1, 0, 0, kind), kind == 0 ? 2 : kind == 3 ? 5 : ERROR);
        }
    }

    /** "deed: its KIND (of bind, tax 0)": also where a DEED of some KIND is asked for. */
    private static void deedOfBind() {
        HalfCitizen x = Check.told(MAN + "law bind deed;law may 0;");
        HalfCitizen y = Check.told(MAN + "law bind deed+1;law may deed;");
        for (int kind = 0; kind < 4; kind++) {
            Check.due("not bound, kind " + kind, x.lawful(0, 0, kind), 1);
            Check.due("bound, kind " + kind, y.lawful(0, 0, kind), kind == 0 ? 0 : 1);
        }
        Check.due("not bound", x.part(0, 0, 3), 0);
        Check.due("bound", y.part(0, 0, 3), 1);
    }

    /** "NAMES: part; side: ..; where: .. (9, if none); face; cross: ..; deed: ..; hour: that of now" */
    private static void namesOfLaws() {
        HalfCitizen x = Check.told("street 3;land l 0 0;land k 2 2;man a 1 north right 0;"
                + "law tax ((((part*10+side)*10+where)*10+face)*10+cross)*100+hour;");
        long[] north = {10000, 101000, 210000, 301000};
        long[] eastCrossed = {19110, 109110, 219100, 309100};
        for (int part = 0; part < 4; part++) {
            Check.due("north at 0", x.law(2, 0, part, 0), north[part] * 10);
        }
        x.move(0, 0);
        x.move(0, 2);
        x.go(24);
        for (int part = 0; part < 4; part++) {
            Check.due("east, hands crossed, at 24", x.law(2, 0, part, 0), eastCrossed[part] * 10 + 24);
        }
    }

    private static void value(String e, long due) {
        Check.due(e, Check.told(MAN + "law tax " + e + ";").law(2, 0, 3, 0), due);
    }

    /** "ERROR: .. a value above 10 to the 12 or below 0 by more than that" */
    private static void valuesAtTheirMost() {
        value(TOP, 1000000000000L);
        value(TOP + "+1", ERROR);
        value(TOP + "-1", 999999999999L);
        value(BOTTOM, -1000000000000L);
        value(BOTTOM + "-1", ERROR);
        value(BOTTOM + "+1", -999999999999L);
        value("1000*1000*1000*1001", ERROR);
        value("(0-1000)*1000*1000*1001", ERROR);
        value(TOP + "+" + TOP, ERROR);
        value(BOTTOM + "-" + TOP, ERROR);
        value("0-" + TOP, -1000000000000L);
        value("0-(" + BOTTOM + ")", 1000000000000L);
        value(BOTTOM + "*(0-1)", 1000000000000L);
        value("(1000*1000)*(1000*1000)", 1000000000000L);
        value("(1000*1000+1)*(1000*1000)", ERROR);
    }

    /** An ERROR inside stays one, whatever is made of it. */
    private static void valuesInBetween() {
        value(TOP + "+1-1", ERROR);
        value("(" + TOP + "+1)*0", ERROR);
        value("0*(1/0)", ERROR);
        value("0 and 1/0", ERROR);
        value("1/0 and 0", ERROR);
        value("1 or 1/0", ERROR);
        value("not (1/0)", ERROR);
        value("1/0=1/0", ERROR);
        value("1<1/0", ERROR);
        value("0/(1/0)", ERROR);
        value("1-1/(part-3)", ERROR);
    }

    /** A product beyond what a long holds is above 10 to the 12, too, even if it would wrap around to 0 or 1. */
    private static void productsThatWrapAround() {
        value("(4096*4096*256)*(4096*4096*256)", ERROR);
        value("(0-4096*4096*256)*(4096*4096*256)", ERROR);
        value("(0-4096*4096*256)*(0-4096*4096*256)", ERROR);
        value("(" + TOP + ")*(" + TOP + ")", ERROR);
        value("(" + BOTTOM + ")*(" + BOTTOM + ")", ERROR);
        value("(4096*4096*4096*8)*(4096*4096*2)", ERROR);
        value("(4096*4096*4096)*(4096*4096*1024)", ERROR);
        value("(4096*4096*1024)*(4096*4096*4096)", ERROR);
        value("(4096*4096*4096*8)*0", 0);
        value("0*(" + BOTTOM + ")", 0);
    }

    /** "/ is cut towards 0"; "/ by 0" */
    private static void divisions() {
        value("7/2", 3);
        value("(0-7)/2", -3);
        value("7/(0-2)", -3);
        value("(0-7)/(0-2)", 3);
        value("1/2", 0);
        value("(0-1)/2", 0);
        value("0/7", 0);
        value("0/0", ERROR);
        value("7/0", ERROR);
        value("7/(3-part)", ERROR);
        value(TOP + "/9999", 100010001);
        value("(" + BOTTOM + ")/(0-1)", 1000000000000L);
    }

    /** "comparisons, and, or, not are 1 or 0 (what isn't 0 is as 1 ..)" */
    private static void onesAndNoughts() {
        value("(0-3) and 5", 1);
        value("(0-3) and 0", 0);
        value("0 and (0-3)", 0);
        value("(0-3) or 0", 1);
        value("0 or 5", 1);
        value("0 or 0", 0);
        value("not (0-1)", 0);
        value("not 9999", 0);
        value("not 0", 1);
        value("not not 9", 1);
        int[][] pairs = {{1, 2}, {2, 2}, {3, 2}};
        String[] signs = {"<", "<=", "=", "<>", ">=", ">"};
        int[][] due = {{1, 1, 0, 1, 0, 0}, {0, 1, 1, 0, 1, 0}, {0, 0, 0, 1, 1, 1}};
        for (int i = 0; i < 3; i++) {
            for (int sign = 0; sign < 6; sign++) {
                value(pairs[i][0] + signs[sign] + pairs[i][1], due[i][sign]);
            }
        }
    }
}
