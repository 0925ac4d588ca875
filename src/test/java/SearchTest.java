/** Promises 18 to 26: joint, stands, match, loopholes, loophole, shut, rests, rest, freed. */
public final class SearchTest {
    public static void main(String[] args) {
        joint();
        stands();
        loopholes();
        shut();
        rests();
        freed();
        Check.end();
    }

    private static void joint() {
        HalfCitizen x = Check.told("street 12;man a 0 west left 0;man b 11 west left 0;");
        Check.due("ten steps", x.joint(0, 1, 1, 1, 2), 10);
        Check.due("the other way round", x.joint(1, 1, 0, 1, 2), 10);
        Check.due("left ones may not hit", x.joint(0, 0, 1, 1, 2), -2);
        Check.due("nor of the other one", x.joint(0, 1, 1, 2, 2), -2);
        Check.due("but hold", x.joint(0, 0, 1, 2, 0), 10);
        x.move(0, 0);
        Check.due("a turn gains one", x.joint(0, 1, 1, 1, 2), 9);
        Check.due("to the left it costs", x.joint(0, 0, 1, 1, 0), 10);
        int[][] none = {{-1, 0, 1, 0, 0}, {2, 0, 1, 0, 0}, {0, -1, 1, 0, 0}, {0, 4, 1, 0, 0}, {0, 0, -1, 0, 0},
            {0, 0, 2, 0, 0}, {0, 0, 1, -1, 0}, {0, 0, 1, 4, 0}, {0, 0, 1, 0, -1}, {0, 0, 1, 0, 4}, {1, 0, 1, 2, 0}};
        for (int[] n : none) {
            Check.due("joint of no such ones", x.joint(n[0], n[1], n[2], n[3], n[4]), -1);
        }
        HalfCitizen y = Check.told("street 2;land a 0 1;bar a lhand;man a 0 east left 0;man b 1 east left 0;");
        Check.due("both outside, on one side", y.joint(0, 0, 1, 0, 0), 3);
    }

    private static void stands() {
        HalfCitizen x = Check.told("street 4;land a 0 3;bar a lhand;man a 1 north left 0;man b 1 north left 0;");
        Check.due("at the ends alone", x.stands(0), 9);
        Check.due("of the other one", x.stands(1), 9);
        Check.due("match(0)", x.match(0), 0);
        Check.due("match(1)", x.match(1), 3);
        Check.due("stands(2)", x.stands(2), -1);
        Check.due("stands(-1)", x.stands(-1), -1);
        Check.due("match(2)", x.match(2), -1);
        Check.due("match(-1)", x.match(-1), -1);
        HalfCitizen y = Check.told("street 4;land a 0 3;bar a lhand;man a 1 north left 0;man b 1 north left 0;"
                + "man c 1 north left 0;");
        Check.due("too many of them", y.match(0), -2);
        HalfCitizen z = Check.told("street 6;land a 1 3;bar a lhand;bar a rhand;bar a lfoot;"
                + "man a 1 north left 0;man b 1 north left 0;");
        Check.due("a hand on either side lies in a", z.stands(0), 1 | 1 << 4 | 1 << 5);
        Check.due("the second one's cell", z.match(1), 4);
        HalfCitizen w = Check.told("street 2;land a 0 1;bar a lhand;bar a rhand;man a 0 north left 0;");
        Check.due("nowhere", w.stands(0), 0);
        Check.due("no match", w.match(0), -2);
    }

    private static void loopholes() {
        HalfCitizen x = Check.told("street 4;land up 2 3;man bo 2 south right 3;bar up lfoot;");
        Check.due("for pass", x.loopholes(0, 3), 36);
        Check.due("the first", x.loophole(0, 3, 0), 0);
        Check.due("of cell 0 all", x.loophole(0, 3, 15), 15);
        Check.due("of cell 1 north, feet uncrossed", x.loophole(0, 3, 16), 16);
        Check.due("then hands crossed", x.loophole(0, 3, 17), 18);
        Check.due("then east", x.loophole(0, 3, 18), 20);
        Check.due("the last", x.loophole(0, 3, 35), 3 * 16 + 2 * 4 + 2);
        Check.due("no more", x.loophole(0, 3, 36), -2);
        Check.due("far too many", x.loophole(0, 3, Integer.MAX_VALUE), -2);
        Check.due("no such k", x.loophole(0, 3, -1), -1);
        Check.due("none so low", x.loophole(0, 3, Integer.MIN_VALUE), -1);
        x.move(0, 3);
        Check.due("as the text begins, not as now", x.loopholes(0, 3), 36);
        int[][] none = {{-1, 0}, {1, 0}, {0, -1}, {0, 4}};
        for (int[] n : none) {
            Check.due("loopholes of no such ones", x.loopholes(n[0], n[1]), -1);
            Check.due("loophole of no such ones", x.loophole(n[0], n[1], 0), -1);
            Check.due("shut of no such ones", x.shut(n[0], n[1]), -1);
        }
        HalfCitizen y = Check.told("street 2;man a 0 north left 0;law bind 1;law may face=1 and hour=3;");
        Check.due("not at this hour", y.loopholes(0, 0), 0);
        Check.due("not even a first", y.loophole(0, 0, 0), -2);
        Check.due("no such k where there are none", y.loophole(0, 0, -1), -1);
        y.go(3);
        Check.due("by facing east", y.loopholes(0, 0), 8);
        Check.due("in the second cell", y.loophole(0, 0, 4), 16 + 4);
    }

    private static void shut() {
        HalfCitizen x = Check.told("street 4;land a 0 1;land b 2 3;law bind 1;law may where<9;man a 0 north left 0;");
        Check.due("both", x.shut(0, 0), 3);
        HalfCitizen y = Check.told("street 4;land a 0 1;land b 2 3;law bind 1;law may where=1;man a 0 north left 0;");
        Check.due("the second alone", y.shut(0, 1), 2);
        HalfCitizen z = Check.told("street 4;land a 0 3;land b 2 3;law bind 1;law may where=9;man a 2 north left 0;");
        Check.due("outside of all", z.shut(0, 1), -2);
        HalfCitizen w = Check.told("street 4;land a 0 3;law bind 0;man a 2 north left 0;");
        Check.due("no loophole", w.shut(0, 1), 0);
    }

    private static void rests() {
        HalfCitizen x = Check.told("street 6;man a 2 north left 0;man b 3 north left 0;");
        int[] due = {1, 2, 3, 11, 12, 13, 31, 32, 33};
        Check.due("rests", x.rests(0, 1), due.length);
        for (int k = 0; k < due.length; k++) {
            Check.due("rest " + k, x.rest(0, 1, k), due[k]);
        }
        Check.due("no more", x.rest(0, 1, due.length), -2);
        Check.due("far too many", x.rest(0, 1, Integer.MAX_VALUE), -2);
        Check.due("no such k", x.rest(0, 1, -1), -1);
        Check.due("none so low", x.rest(0, 1, Integer.MIN_VALUE), -1);
        x.move(0, 2);
        x.move(0, 5);
        x.move(0, 5);
        int[] behind = {x.rests(0, 1), x.rests(1, 0)};
        Check.due("as many the other way round", behind[0], behind[1]);
        int[][] none = {{-1, 0}, {2, 0}, {0, -1}, {0, 2}, {0, 0}, {1, 1}};
        for (int[] n : none) {
            Check.due("rests of no such ones", x.rests(n[0], n[1]), -1);
            Check.due("rest of no such ones", x.rest(n[0], n[1], 0), -1);
        }
    }

    private static void freed() {
        freedOf(30, "lhand rhand lfoot rfoot", 3);
        freedOf(25, "lhand rhand lfoot rfoot", 1);
        freedOf(24, "lhand rhand lfoot rfoot", 0);
        freedOf(35, "lhand rhand lfoot rfoot", 7);
        freedOf(40, "lhand rhand lfoot rfoot", 15);
        freedOf(15, "lfoot rfoot", 4);
        freedOf(15, "rhand rfoot", 2);
        freedOf(15, "rhand", 2);
        freedOf(99, "", 0);
        HalfCitizen x = new HalfCitizen();
        Check.due("freed(0) of nobody", x.freed(0), -1);
        Check.due("freed(-1)", x.freed(-1), -1);
    }

    private static void freedOf(int coin, String parts, int due) {
        StringBuilder text = new StringBuilder("fine 5;law bind 1;law may 0;man a 0 north left " + coin + ";");
        for (String part : parts.split(" ")) {
            if (!part.isEmpty()) {
                text.append("deed a ").append(part).append(" hold 0;");
            }
        }
        HalfCitizen x = Check.told(text.toString());
        x.go(1);
        Check.due("freed of " + coin + " and " + parts, x.freed(0), due);
    }
}
