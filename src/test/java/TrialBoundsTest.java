import java.math.BigInteger;

/** Promises 31 and 32 at their bounds: DAYS by chance, the rest of a DAY tried otherwise. */
public final class TrialBoundsTest {
    private static final int LEAST = Integer.MIN_VALUE;
    private static final int MOST = Integer.MAX_VALUE;
    private static final String STRICT = "law bind 1;law may 0;";

    public static void main(String[] args) {
        chanceOfNone();
        chanceOfAtLeast();
        chanceOfTwelve();
        chanceAtTheEnd();
        chanceOfDeedsDone();
        chanceWrapsAround();
        chanceAtTheWalls();
        chanceChangesNothing();
        triedOfNone();
        triedAtTheEnd();
        triedBound();
        triedBarred();
        triedHearts();
        triedIdle();
        triedSeized();
        triedNorth();
        triedChangesNothing();
        Check.end();
    }

    /** "NONE: no such ones" */
    private static void chanceOfNone() {
        HalfCitizen x = Check.told("man a 3 north left 0;man b 3 north left 0;");
        int[] seeds = {-1, LEAST};
        int[] men = {-1, 2, 5, LEAST, MOST};
        int[] deeds = {-1, 13, LEAST, MOST};
        for (int seed : seeds) {
            Check.due("chance(" + seed + ", 0, 0)", x.chance(seed, 0, 0), -1);
        }
        for (int man : men) {
            Check.due("chance(0, " + man + ", 0)", x.chance(0, man, 0), -1);
        }
        for (int n : deeds) {
            Check.due("chance(0, 0, " + n + ")", x.chance(0, 0, n), -1);
        }
        Check.due("the least", x.chance(0, 0, 0), 10);
        Check.due("the highest seed", x.chance(MOST, 1, 0), 10);
        Check.due("the most deeds", x.chance(0, 1, 12), 0);
    }

    /** "at least n (0 .. 12) DEEDS DONE then" */
    private static void chanceOfAtLeast() {
        HalfCitizen x = Check.told("man a 3 north left 0;man b 3 north left 0;deed a lhand hold 0;deed a rhand hit 12;"
                + "deed a rfoot hit 23;deed b rfoot hit 23;law bind 0;");
        int[] due = {10, 10, 10, 10, 0, 0};
        for (int n = 0; n < due.length; n++) {
            Check.due("at least " + n, x.chance(77, 0, n), due[n]);
        }
        Check.due("of the other one", x.chance(77, 1, 1), 10);
        Check.due("of the other one two", x.chance(77, 1, 2), 0);
    }

    private static void chanceOfTwelve() {
        StringBuilder text = new StringBuilder("man a 3 north left 0;law bind 0;");
        for (int i = 0; i < 12; i++) {
            text.append("deed a lhand hit ").append(2 * i).append(';');
        }
        HalfCitizen x = Check.told(text.toString());
        Check.due("all twelve", x.chance(5, 0, 12), 10);
        HalfCitizen y = Check.told(text + "law may 0;");
        Check.due("all twelve, nobody is bound", y.chance(5, 0, 12), 10);
        HalfCitizen z = Check.told(text.toString().replace("bind 0", "bind hour=22") + "law may 0;");
        Check.due("eleven", z.chance(5, 0, 11), 10);
        Check.due("not twelve", z.chance(5, 0, 12), 0);
    }

    /** "from now on to HOUR 24": none is left. */
    private static void chanceAtTheEnd() {
        HalfCitizen x = Check.told("man a 3 north left 0;deed a rhand hit 23;");
        x.go(24);
        Check.due("done already", x.chance(1, 0, 1), 10);
        Check.due("no more than that", x.chance(1, 0, 2), 0);
        HalfCitizen y = Check.told("man a 3 north left 0;");
        y.go(24);
        Check.due("none", y.chance(1, 0, 1), 0);
    }

    /** What was CLASHED, SEIZED or DONE ahead of now stays so. */
    private static void chanceOfDeedsDone() {
        HalfCitizen x = Check.told("man a 3 north left 0;law bind 1;law may hour<>0 or part=1;deed a lhand hold 0;"
                + "deed a rhand hold 0;deed a lhand hold 5;deed a rhand hold 5;");
        x.go(1);
        Check.due("one done, one to come, one seized", x.chance(9, 0, 2), 10);
        Check.due("no third", x.chance(9, 0, 3), 0);
    }

    private static long next(long last) {
        return BigInteger.valueOf(last).multiply(BigInteger.valueOf(1103515245)).add(BigInteger.valueOf(12345))
                .mod(BigInteger.TWO.pow(31)).longValueExact();
    }

    /** "Numbers .. without what is above 31 bits, by 65536": the last HOUR alone, a MOVE is one of 0 .. 5. */
    private static void chanceWrapsAround() {
        int[] seeds = {0, 1, 65535, 65536, 99999, 1 << 30, MOST - 1, MOST};
        for (int seed : seeds) {
            int turned = 0;
            int back = 0;
            int crossed = 0;
            long last = seed;
            for (int day = 0; day < 10; day++) {
                last = next(last);
                int move = (int) (last / 65536 % 6);
                turned += move == 0 ? 1 : 0;
                back += move == 1 ? 1 : 0;
                crossed += move == 2 ? 1 : 0;
            }
            Check.due("turned from " + seed, lastHour("face=1").chance(seed, 0, 1), turned);
            Check.due("turned the other way from " + seed, lastHour("face=3").chance(seed, 0, 1), back);
            Check.due("crossed from " + seed, lastHour("cross").chance(seed, 0, 1), crossed);
        }
    }

    private static HalfCitizen lastHour(String may) {
        HalfCitizen x = Check.told("man a 3 north left 0;deed a lhand hit 23;law bind 1;law may " + may + ";");
        x.go(23);
        return x;
    }

    /** "each MAN makes the MOVE of a number modulo 6 (none, if it can't be)": two of them in a street of two cells. */
    private static void chanceAtTheWalls() {
        for (int seed = 1; seed < 2000000000; seed += 99999989) {
            HalfCitizen x = Check.told("street 2;land l 0 0;man a 0 west left 0;man b 1 west left 0;deed a rfoot pass 23;"
                    + "deed b rfoot pass 23;law bind 1;law may where=0 and (face=1 or face=3);");
            x.go(20);
            int[] done = new int[2];
            long last = seed;
            for (int day = 0; day < 10; day++) {
                int[] cells = {0, 1};
                int[] faces = {3, 3};
                for (int hour = 20; hour < 24; hour++) {
                    for (int man = 0; man < 2; man++) {
                        last = next(last);
                        step(cells, faces, man, (int) (last / 65536 % 6));
                    }
                }
                for (int man = 0; man < 2; man++) {
                    done[man] += cells[man] == 0 && faces[man] % 2 == 1 ? 1 : 0;
                }
            }
            Check.due("a from " + seed, x.chance(seed, 0, 1), done[0]);
            Check.due("b from " + seed, x.chance(seed, 1, 1), done[1]);
        }
    }

    private static void step(int[] cells, int[] faces, int man, int move) {
        switch (move) {
            case 0 -> faces[man] = (faces[man] + 1) % 4;
            case 1 -> faces[man] = (faces[man] + 3) % 4;
            case 4 -> cells[man] = Math.max(0, cells[man] - 1);
            case 5 -> cells[man] = Math.min(1, cells[man] + 1);
            default -> { }
        }
    }

    private static final String BUSY = "street 5;land l 0 1;bar l lhand;man a 2 south right 50;man b 1 north left 40;"
            + "deed a lhand hit 1;deed a rhand hit 1;deed b lhand hold 1;deed b rhand hit 3;deed b lfoot hit 3;law tax 2;";

    private static void chanceChangesNothing() {
        HalfCitizen x = Check.told(BUSY);
        x.go(2);
        x.move(0, 2);
        String ahead = Check.all(x);
        for (int n = 0; n < 5; n++) {
            Check.due("the same again", x.chance(n, 1, 1), x.chance(n, 1, 1));
        }
        Check.due("nothing changed", Check.all(x).equals(ahead), true);
        Check.due("what can be undone, neither", x.undo(), 0);
    }

    /** "NONE: no such ones (i 0 of all but 3)" */
    private static void triedOfNone() {
        HalfCitizen x = Check.told("man a 3 north left 0;man b 3 north left 0;deed a rhand hold 0;");
        int[] none = {-1, 6, LEAST, MOST};
        int[] others = {-1, 1, 2, LEAST, MOST};
        for (int what : none) {
            Check.due("tried(" + what + ", 0)", x.tried(what, 0), -1);
            Check.due("tried(" + what + ", 1)", x.tried(what, 1), -1);
        }
        for (int what = 0; what < 6; what++) {
            for (int i : others) {
                int due = what == 3 && i == 1 ? 1 : -1;
                Check.due("tried(" + what + ", " + i + ")", x.tried(what, i), due);
            }
        }
        Check.due("tried(3, 0)", x.tried(3, 0), 0);
        for (int what = 0; what < 6; what++) {
            Check.due("tried(" + what + ", 0) without men", new HalfCitizen().tried(what, 0), what == 3 ? -1 : 0);
        }
    }

    /** "the rest of the DAY": none is left; "how many DEEDS are DONE in all then" */
    private static void triedAtTheEnd() {
        HalfCitizen x = Check.told("man a 3 south left 0;man b 3 south left 0;deed a lhand hit 23;deed a rhand hit 23;"
                + "deed b rhand hit 23;");
        x.go(24);
        for (int what = 0; what < 6; what++) {
            Check.due("tried(" + what + ", 0)", x.tried(what, 0), 2);
        }
        Check.due("tried(3, 1)", x.tried(3, 1), 2);
    }

    /** "0 nobody is BOUND": BARRED they are. */
    private static void triedBound() {
        HalfCitizen x = Check.told("land l 3 3;bar l lhand;man a 3 west left 0;" + STRICT + "deed a lhand hit 0;"
                + "deed a rhand hit 23;");
        Check.due("as it is", x.tried(1, 0), 0);
        Check.due("nobody is bound", x.tried(0, 0), 1);
        x.go(23);
        Check.due("the last hour alone", x.tried(0, 0), 1);
        x.go(1);
        Check.due("too late", x.tried(0, 0), 0);
    }

    /** "1 nothing is BARRED": BOUND they are. */
    private static void triedBarred() {
        HalfCitizen x = Check.told("land l 3 3;bar l rhand;bar l lhand;man a 3 west left 0;deed a lhand hit 0;"
                + "deed a rhand hit 0;");
        Check.due("as it is", x.tried(0, 0), 0);
        Check.due("nothing is barred", x.tried(1, 0), 1);
        Check.due("barred again", x.part(0, 1, 4), 1);
    }

    /** "2 all hearts are on the other SIDE" */
    private static void triedHearts() {
        HalfCitizen x = Check.told("man a 3 west left 0;man b 3 west right 0;deed a lhand hit 0;deed b rhand hit 0;"
                + "deed a rhand hit 1;deed b lhand hit 1;deed b lfoot hit 2;");
        Check.due("both of the first hour, none of the others", x.tried(2, 0), 2);
        Check.due("those of the others, as it is", x.tried(5, 0), 3);
        HalfCitizen y = Check.told("man a 3 west left 0;law bind 1;law may side=0 and part=1;deed a rhand hit 0;");
        Check.due("names of laws, too", y.tried(2, 0), 1);
        Check.due("the side of now", y.part(0, 1, 2), 1);
    }

    /** "3 MAN i does nothing": what he did ahead stays. */
    private static void triedIdle() {
        HalfCitizen x = Check.told("man a 3 west left 0;man b 3 west left 0;deed a rhand hit 0;deed b rhand hit 0;"
                + "deed a rhand hit 1;deed b rfoot hit 23;");
        Check.due("a does nothing", x.tried(3, 0), 2);
        Check.due("b does nothing", x.tried(3, 1), 2);
        x.go(1);
        Check.due("a does nothing more", x.tried(3, 0), 3);
        Check.due("nor b", x.tried(3, 1), 3);
    }

    /** "4 nothing is SEIZED, nor was (it CLASHES only)" */
    private static void triedSeized() {
        HalfCitizen x = Check.told("man a 3 west left 9;law bind 1;law may hour=1 or hour=3;deed a lhand hit 0;"
                + "deed a lhand hit 1;"
                + "deed a lhand hit 2;deed a lhand hit 3;");
        Check.due("from the first hour", x.tried(4, 0), 2);
        Check.due("as it is", x.tried(1, 0), 0);
        x.go(2);
        Check.due("left", x.deed(1, 4), 3);
        Check.due("from the third hour", x.tried(4, 0), 1);
        Check.due("still seized", x.look(0, 6), 1);
        x.go(2);
        Check.due("what was left stays left", x.tried(4, 0), 0);
    }

    /** "5 all face north": now, and all the DAY. */
    private static void triedNorth() {
        HalfCitizen x = Check.told("man a 3 west left 0;man b 3 south left 0;man c 3 north left 0;law bind 1;law may face=0;"
                + "deed a lhand hit 0;deed b lhand hit 12;deed c lhand hit 23;");
        Check.due("as it is", x.tried(1, 0), 1);
        Check.due("all", x.tried(5, 0), 3);
        Check.due("they don't now", x.look(0, 1) * 10 + x.look(1, 1), 32);
        HalfCitizen y = Check.told("land l 4 4;man a 3 south left 0;law bind 1;law may where=0 and cross;"
                + "deed a lhand hit 0;");
        y.move(0, 2);
        Check.due("their places, too", y.tried(5, 0), 1);
    }

    private static void triedChangesNothing() {
        HalfCitizen x = Check.told(BUSY);
        x.go(2);
        x.move(0, 2);
        String ahead = Check.all(x);
        int[] due = new int[6];
        for (int what = 0; what < 6; what++) {
            due[what] = x.tried(what, 0);
        }
        for (int what = 5; what >= 0; what--) {
            Check.due("the same again", x.tried(what, 0), due[what]);
            x.tried(what, 9);
        }
        Check.due("nothing changed", Check.all(x).equals(ahead), true);
        Check.due("what can be undone, neither", x.undo(), 0);
        Check.due("the day goes on as it is", x.go(22), 24);
    }
}
