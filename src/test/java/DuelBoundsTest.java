/** Promises 23 to 26 at their bounds: SHUT, DUELS, FREED. */
public final class DuelBoundsTest {
    private static final int LEAST = Integer.MIN_VALUE;
    private static final int MOST = Integer.MAX_VALUE;

    public static void main(String[] args) {
        shutByNone();
        shutByAll();
        shutNotByAll();
        shutButForFirstState();
        shutWhereThePartLies();
        allAreRests();
        noneIsRest();
        restsInOrder();
        moreByFacingNorth();
        feetDoNotHit();
        eachHandOnce();
        restOfNone();
        duelOutside();
        duelThoughSeized();
        duelAtThisHour();
        freedByCoin();
        freedForNothing();
        freedOfThoseSeized();
        freedOfNone();
        Check.end();
    }

    /** "the fewest LANDS (bits ..)": none is needed where there is no LOOPHOLE. */
    private static void shutByNone() {
        HalfCitizen x = Check.told("land l 0 7;man a 3 west left 0;law bind 0;");
        Check.due("no loophole", x.loopholes(0, 0), 0);
        Check.due("nothing to shut", x.shut(0, 0), 0);
        HalfCitizen y = Check.told("man a 3 west left 0;law bind 1;law may 0;");
        Check.due("no lands, no loophole", y.shut(0, 0), 0);
    }

    /** All five LANDS, or one of them alone. */
    private static void shutByAll() {
        String lands = "street 5;land p 0 0;land q 1 1;land r 2 2;land s 3 3;land t 4 4;man a 2 north left 0;law bind 1;";
        Check.due("all five", Check.told(lands + "law may (face=1 or face=3) and part=0;").shut(0, 0), 31);
        for (int land = 0; land < 5; land++) {
            Check.due("one alone", Check.told(lands + "law may where=" + land + " and part=0 and face=1;").shut(0,
                    0), 1 << land);
        }
        Check.due("the first and the last", Check.told(lands + "law may (where=0 or where=4) and face=1;").shut(0, 0), 17);
        HalfCitizen x = Check.told("street 5;land p 0 4;land q 0 4;man a 2 west left 0;law bind 1;law may face=1;");
        Check.due("a land without cells isn't needed", x.shut(0, 0), 2);
    }

    /** "-2: not by all LANDS" */
    private static void shutNotByAll() {
        String text = "man a 2 west left 0;law bind 1;law may face=1;";
        Check.due("without lands", Check.told("street 5;" + text).shut(0, 0), -2);
        Check.due("a cell of none", Check.told("street 5;land p 0 1;land q 3 4;" + text).shut(0, 0), -2);
        Check.due("every cell of some", Check.told("street 5;land p 0 1;land q 2 4;" + text).shut(0, 0), 3);
        HalfCitizen x = Check.told("street 5;land p 0 4;man a 2 west left 0;law bind 1;law may face=0;");
        Check.due("a place outside the street", x.shut(0, 0), -2);
    }

    /** "(but for the first STATE, which is asked as it is)": by the right hand it is LAWFUL there, and shut it isn't. */
    private static void shutButForFirstState() {
        HalfCitizen x = Check.told("street 4;land l 2 3;man a 1 north left 0;law bind 1;"
                + "law may part=1 or where=0 and part=0;");
        Check.due("the right hand lies in l", x.part(0, 1, 1), 0);
        Check.due("it is no loophole anywhere", x.shut(0, 0), 1);
    }

    /** It is the PLACE of the PART that counts, not the CELL of the MAN. */
    private static void shutWhereThePartLies() {
        HalfCitizen x = Check.told("street 4;land l 0 1;land k 2 3;man a 1 west left 0;law bind 1;"
                + "law may part=1 and face=0 and where=1;");
        Check.due("from cells 1 and 2, and crossed from 3", x.loopholes(0, 0), 6);
        Check.due("shut by k alone", x.shut(0, 0), 2);
        HalfCitizen y = Check.told("street 4;land l 0 2;land k 3 3;man a 1 west left 0;law bind 1;"
                + "law may part=0 and face=0 and not cross and where<9;");
        Check.due("to k he would reach from behind the street alone", y.shut(0, 0), 1);
    }

    /** Nobody may hit: all 16 are RESTS. */
    private static void allAreRests() {
        HalfCitizen x = Check.told("man a 3 north left 0;man b 3 north left 0;law bind 1;law may deed<>2;");
        Check.due("all", x.rests(0, 1), 16);
        for (int k = 0; k < 16; k++) {
            Check.due("rest " + k, x.rest(0, 1, k), k / 4 * 10 + k % 4);
        }
        Check.due("no seventeenth", x.rest(0, 1, 16), -2);
        Check.due("far too many", x.rest(0, 1, MOST), -2);
        Check.due("ahead of the first", x.rest(0, 1, -1), -1);
        Check.due("far ahead of it", x.rest(0, 1, LEAST), -1);
    }

    /** b hits with crossed hands if both face along the street or both across it: he wants that, a the other. */
    private static void noneIsRest() {
        HalfCitizen x = Check.told("man a 3 north left 0;man b 3 north left 0;law bind 1;law may cross;");
        x.move(1, 2);
        Check.due("none", x.rests(0, 1), 0);
        Check.due("no first", x.rest(0, 1, 0), -2);
        Check.due("none the other way round", x.rests(1, 0), 0);
        Check.due("ahead of the first", x.rest(0, 1, -1), -1);
    }

    /**
     * "by the first one's, then the second one's FACE": left hands alone may hit. What a has, by b's FACE: facing north
     * 0, -1, 0, -1; facing east or west 0, 0, 1, 0; facing south 0, 0, 0, 0.
     */
    private static void restsInOrder() {
        HalfCitizen x = Check.told("man a 3 north left 0;man b 4 north left 0;law bind 1;law may part=0;");
        int[] due = {10, 11, 13, 20, 21, 23, 30, 31, 33};
        int[] otherWay = {1, 2, 3, 11, 12, 13, 31, 32, 33};
        Check.due("rests", x.rests(0, 1), 9);
        Check.due("rests the other way round", x.rests(1, 0), 9);
        for (int k = 0; k < 9; k++) {
            Check.due("rest " + k, x.rest(0, 1, k), due[k]);
            Check.due("the other way round", x.rest(1, 0, k), otherWay[k]);
        }
        Check.due("no tenth", x.rest(0, 1, 9), -2);
    }

    /** Facing north a's left hand hits him who faces north or south; b hits never. So b faces east or west. */
    private static void moreByFacingNorth() {
        HalfCitizen x = Check.told("man a 3 north left 0;man b 3 north right 0;law bind 1;"
                + "law may part=0 and side=0 and face=0;");
        int[] due = {1, 3, 11, 13, 21, 23, 31, 33};
        int[] otherWay = {10, 11, 12, 13, 30, 31, 32, 33};
        Check.due("rests", x.rests(0, 1), 8);
        Check.due("rests the other way round", x.rests(1, 0), 8);
        for (int k = 0; k < 8; k++) {
            Check.due("rest " + k, x.rest(0, 1, k), due[k]);
            Check.due("the other way round", x.rest(1, 0, k), otherWay[k]);
        }
    }

    /** "for each of his hands": a foot that may hit counts for nothing. */
    private static void feetDoNotHit() {
        HalfCitizen x = Check.told("man a 3 north left 0;man b 3 north right 0;law bind 1;law may part>1 and side=0;");
        Check.due("feet alone", x.rests(0, 1), 16);
    }

    /** "1 for each of his hands": a's right one, b's left one. */
    private static void eachHandOnce() {
        HalfCitizen x = Check.told("man a 3 north left 0;man b 3 north right 0;law bind side=0;law may 0;");
        Check.due("one hand of either", x.rests(0, 1), 16);
        HalfCitizen y = Check.told("man a 3 north left 0;man b 3 north right 0;law bind 1;"
                + "law may part=0 or part=1 and side=1;");
        Check.due("two of a, one of b", y.rests(0, 1), 0);
    }

    /** "NONE: no such ones, alike" */
    private static void restOfNone() {
        HalfCitizen x = Check.told("man a 3 north left 0;man b 4 north left 0;");
        int[] none = {-1, 2, LEAST, MOST};
        for (int n : none) {
            Check.due("rests(" + n + ", 0)", x.rests(n, 0), -1);
            Check.due("rests(0, " + n + ")", x.rests(0, n), -1);
            Check.due("rest(" + n + ", 0, 0)", x.rest(n, 0, 0), -1);
            Check.due("rest(0, " + n + ", 0)", x.rest(0, n, 0), -1);
        }
        for (int man = 0; man < 2; man++) {
            Check.due("alike", x.rests(man, man), -1);
            Check.due("alike", x.rest(man, man, 0), -1);
        }
    }

    /** PLACES outside the street are PLACES of PARTS, too: so each hits as often as the other one. */
    private static void duelOutside() {
        HalfCitizen x = Check.told("street 2;man a 0 north left 0;man b 0 north left 0;law bind part=1;law may 0;");
        Check.due("at the lower end", x.rests(0, 1), 16);
        HalfCitizen y = Check.told("street 2;man a 1 north left 0;man b 1 north left 0;law bind part=0;law may 0;");
        Check.due("at the upper end", y.rests(0, 1), 16);
    }

    /** "each of his hands that is LAWFUL to hit": SEIZED or not. */
    private static void duelThoughSeized() {
        HalfCitizen x = Check.told("man a 3 north left 0;man b 4 north left 0;law bind 1;law may part=0 and deed=2;"
                + "deed a lhand hold 0;deed b lhand hold 0;");
        int ahead = x.rests(0, 1);
        x.go(1);
        Check.due("seized", x.part(0, 0, 5) + x.part(1, 0, 5), 2);
        Check.due("as ahead", x.rests(0, 1), ahead);
        Check.due("that are", ahead, 9);
    }

    /** "where they stand": where they stand now, at the HOUR of now. */
    private static void duelAtThisHour() {
        HalfCitizen x = Check.told("man a 3 north left 0;man b 4 north left 0;law bind hour<>1 or part<>0;law may 0;");
        Check.due("not at this hour", x.rests(0, 1), 16);
        x.go(1);
        Check.due("at the next", x.rests(0, 1), 9);
        x.move(0, 4);
        x.move(0, 4);
        Check.due("too far apart", x.rests(0, 1), 16);
        x.go(1);
        x.move(0, 5);
        x.move(0, 5);
        Check.due("not at this one", x.rests(0, 1), 16);
    }

    private static int freed(int coin, int fine, String parts) {
        StringBuilder text = new StringBuilder("law bind 1;law may 0;fine " + fine + ";man a 3 north left ");
        int many = parts.isEmpty() ? 0 : parts.split(" ").length;
        text.append(coin + many * fine).append(';');
        for (int i = 0; i < many; i++) {
            text.append("deed a ").append(parts.split(" ")[i]).append(" hold 0;");
        }
        HalfCitizen x = Check.told(text.toString());
        x.go(1);
        Check.due("coin", x.look(0, 4), coin);
        return x.freed(0);
    }

    /** "the most worth (a hand 3, a foot 2), of several the least bits": at each COIN where one more can be freed. */
    private static void freedByCoin() {
        String all = "lhand rhand lfoot rfoot";
        int[] coin = {0, 9, 10, 19, 20, 29, 30, 39, 40, 41, 59};
        int[] due = {0, 0, 1, 1, 3, 3, 7, 7, 15, 15, 15};
        for (int i = 0; i < coin.length; i++) {
            Check.due("of all with " + coin[i], freed(coin[i], 10, all), due[i]);
        }
        Check.due("a hand ahead of a foot", freed(10, 10, "lfoot rfoot rhand"), 2);
        Check.due("a hand and the left foot", freed(20, 10, "lfoot rfoot rhand"), 6);
        Check.due("two hands ahead of one and a foot", freed(20, 10, "lfoot lhand rhand"), 3);
        Check.due("the left foot", freed(10, 10, "rfoot lfoot"), 4);
        Check.due("the left hand", freed(10, 10, "rhand lhand"), 1);
    }

    /** fine 0: each for nothing. */
    private static void freedForNothing() {
        Check.due("all, without coin", freed(0, 0, "lhand rhand lfoot rfoot"), 15);
        Check.due("a foot, without coin", freed(0, 0, "rfoot"), 8);
        Check.due("none is seized", freed(99, 0, ""), 0);
    }

    /** "which SEIZED PARTS" */
    private static void freedOfThoseSeized() {
        String[] parts = {"lhand", "rhand", "lfoot", "rfoot"};
        for (int part = 0; part < 4; part++) {
            Check.due("the only one", freed(49, 49, parts[part]), 1 << part);
            Check.due("not enough", freed(48, 49, parts[part]), 0);
        }
        Check.due("none is seized", freed(99, 1, ""), 0);
    }

    /** "NONE: no such MAN" */
    private static void freedOfNone() {
        HalfCitizen x = Check.told("man a 3 north left 0;");
        int[] none = {-1, 1, LEAST, MOST};
        for (int n : none) {
            Check.due("freed(" + n + ")", x.freed(n), -1);
        }
        Check.due("freed(0)", x.freed(0), 0);
    }
}
