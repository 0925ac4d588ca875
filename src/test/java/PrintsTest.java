/** Promises 27 to 30: print, strike, known, whose. */
public final class PrintsTest {
    private static final String TEXT = "street 6;man a 1 north left 0;man b 4 east left 0;man c 1 north right 0;";

    public static void main(String[] args) {
        numbers();
        whose();
        strikes();
        known();
        distances();
        Check.end();
    }

    private static void numbers() {
        HalfCitizen x = Check.told(TEXT);
        int[][] none = {{-1, 0, 0}, {100, 0, 0}, {0, -1, 0}, {0, 4, 0}, {0, 0, -1}, {0, 0, 6}};
        for (int[] n : none) {
            Check.due("no such print", x.print(n[0], n[1], n[2]), -1);
        }
        Check.due("nothing to strike", x.strike(0), -1);
        for (int i = 0; i < 23; i++) {
            Check.due("print", x.print(99, 3, 5), i);
        }
        Check.due("strike(23)", x.strike(23), -1);
        Check.due("strike(-1)", x.strike(-1), -1);
        Check.due("strike", x.strike(22), 23);
        Check.due("there are 24", x.print(0, 0, 0), -1);
        Check.due("there are 24", x.strike(0), -1);
        Check.due("prints", x.count(11), 24);
    }

    private static void whose() {
        HalfCitizen x = Check.told(TEXT);
        Check.due("all at first", x.whose(), 7);
        x.print(0, 0, 0);
        Check.due("who faces north in cell 1", x.whose(), 5);
        x.print(2, 1, 4);
        Check.due("two steps bring the right hand there", x.whose(), 5);
        x.print(1, 1, 3);
        Check.due("one step", x.whose(), 5);
        x.print(4, 0, 4);
        Check.due("two more moves", x.whose(), 5);
        x.print(3, 1, 0);
        Check.due("not within one move", x.whose(), 0);
        HalfCitizen y = Check.told(TEXT);
        y.print(99, 0, 5);
        Check.due("late enough for all", y.whose(), 7);
        y.print(99, 1, 4);
        Check.due("no state has hands so", y.whose(), 0);
        HalfCitizen z = Check.told(TEXT);
        z.print(1, 2, 5);
        Check.due("b alone, by a step or a turn", z.whose(), 2);
        z.print(1, 0, 5);
        Check.due("hands and feet at once", z.whose(), 2);
        z.move(1, 4);
        z.move(1, 4);
        z.go(3);
        Check.due("as the text begins", z.whose(), 2);
        Check.due("nobody", new HalfCitizen().whose(), 0);
    }

    private static void strikes() {
        HalfCitizen x = Check.told(TEXT);
        x.print(0, 0, 0);
        x.print(0, 0, 4);
        Check.due("none fits both", x.whose(), 0);
        x.strike(0);
        Check.due("the second alone", x.whose(), 2);
        x.strike(2);
        Check.due("the strike is struck", x.whose(), 0);
        x.strike(3);
        Check.due("and that strike, too", x.whose(), 2);
        x.strike(1);
        Check.due("nothing is left", x.whose(), 7);
    }

    /**
     * All four parts of a state printed, then all four of another one: a man can be behind both if, and only if, there
     * is time enough for the moves between his first state and states that look like them.
     */
    private static void distances() {
        String[] faces = {"north", "east", "south", "west"};
        for (int face = 0; face < 4; face++) {
            int start = 2 * 16 + face * 4;
            for (int one = 16; one < 64; one += 3) {
                for (int other = 16; other < 64; other += 5) {
                    for (int time = 0; time < 5; time++) {
                        HalfCitizen x = Check.told("street 5;man a 2 " + faces[face] + " left 0;");
                        int first = 1 + time % 3;
                        printAll(x, first, one);
                        printAll(x, first + time, other);
                        Check.due("from " + start + " by " + one + " to " + other + " within " + first + " and " + time,
                                x.whose(), reaches(start, one, first, other, time) ? 1 : 0);
                    }
                }
            }
        }
    }

    private static void printAll(HalfCitizen x, int time, int state) {
        for (int part = 0; part < 4; part++) {
            x.print(time, part, place(state, part));
        }
    }

    private static int place(int state, int part) {
        int face = state / 4 % 4;
        int cross = part < 2 ? state / 2 % 2 : state % 2;
        int right = (part + cross + face / 2) % 2;
        return state / 16 + (face % 2 == 1 ? 0 : 2 * right - 1);
    }

    private static boolean reaches(int start, int one, int first, int other, int time) {
        for (int s = 0; s < 80; s++) {
            for (int t = 0; t < 80; t++) {
                if (alike(s, one) && alike(t, other) && apart(start, s) <= first && apart(s, t) <= time) {
                    return true;
                }
            }
        }
        return false;
    }

    private static boolean alike(int s, int t) {
        return place(s, 0) == place(t, 0) && place(s, 1) == place(t, 1) && place(s, 2) == place(t, 2)
                && place(s, 3) == place(t, 3);
    }

    private static int apart(int s, int t) {
        int turns = Math.abs(s / 4 % 4 - t / 4 % 4);
        return Math.abs(s / 16 - t / 16) + Math.min(turns, 4 - turns) + (s / 2 % 2 ^ t / 2 % 2) + (s % 2 ^ t % 2);
    }

    private static void known() {
        HalfCitizen x = Check.told(TEXT);
        x.print(0, 0, 0);
        x.print(0, 0, 4);
        x.strike(0);
        x.strike(2);
        int[] due = {7, 5, 0, 2, 0};
        for (int n = 0; n < due.length; n++) {
            Check.due("known(" + n + ")", x.known(n), true);
            Check.due("known by " + n, x.count(12), n);
            Check.due("whose by " + n, x.whose(), due[n]);
        }
        Check.due("known(5)", x.known(5), false);
        Check.due("known(-2)", x.known(-2), false);
        Check.due("it stays by 4", x.count(12), 4);
        x.strike(1);
        Check.due("what comes is not known", x.whose(), 0);
        Check.due("known(-1)", x.known(-1), true);
        Check.due("by all", x.whose(), 5);
        x.strike(0);
        Check.due("also by those to come", x.whose(), 7);
    }
}
