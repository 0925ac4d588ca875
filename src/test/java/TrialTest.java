/** Promises 31 and 32: chance, tried. */
public final class TrialTest {
    private static final String TEXT = "street 4;land up 2 3;man al 1 north left 9;man bo 2 south right 3;bar up rfoot;"
            + "deed al lhand hit 0;deed al rhand hit 0;deed bo lhand hit 1;deed al lhand pass 5;deed bo rfoot sign 7;"
            + "deed al rfoot hold 9;deed bo rhand hit 11;";

    public static void main(String[] args) {
        chanceEdges();
        chanceNumbers();
        tried();
        triedLater();
        Check.end();
    }

    private static void chanceEdges() {
        HalfCitizen x = Check.told("man a 3 north left 0;deed a rhand hit 3;deed a rfoot hold 4;deed a rhand pass 9;"
                + "man b 3 north left 0;");
        Check.due("at least 0", x.chance(0, 0, 0), 10);
        Check.due("at least 3", x.chance(2147483647, 0, 3), 10);
        Check.due("at least 4", x.chance(1, 0, 4), 0);
        Check.due("the other one has none", x.chance(1, 1, 1), 0);
        x.go(24);
        Check.due("done already", x.chance(1, 0, 3), 10);
        int[][] none = {{-1, 0, 0}, {0, -1, 0}, {0, 2, 0}, {0, 0, -1}, {0, 0, 13}};
        for (int[] n : none) {
            Check.due("no such ones", x.chance(n[0], n[1], n[2]), -1);
        }
        Check.due("twelve", x.chance(0, 0, 12), 0);
    }

    /** One MAN, one HOUR left: the DEED is DONE if the number of the DAY modulo 6 is the MOVE that it wants. */
    private static void chanceNumbers() {
        String[] wanted = {"face=1", "face=3", "cross", "part=9", "where=0", "where=1"};
        int[] numbers = new int[6];
        for (int seed = 0; seed < 40; seed++) {
            java.util.Arrays.fill(numbers, 0);
            long last = seed * 53687091L;
            long first = last;
            for (int day = 0; day < 10; day++) {
                last = Math.floorMod(last * 1103515245L + 12345L, 2147483648L);
                numbers[(int) (last / 65536 % 6)]++;
            }
            for (int move = 0; move < 6; move++) {
                if (move != 3) {
                    HalfCitizen x = Check.told("street 5;land a 0 1;land b 3 4;man a 2 north left 0;"
                            + "deed a rhand hit 23;law bind 1;law may " + wish(wanted[move]) + ";");
                    x.go(23);
                    Check.due("chance of " + wanted[move], x.chance((int) first, 0, 1), expected(numbers, move));
                    Check.due("nothing moved", x.look(0, 1), 0);
                    Check.due("no hour went by", x.count(6), 23);
                }
            }
        }
    }

    /** The rhand lies in cell 3 facing north from cell 2: of land b; a step less and it lies in cell 2. */
    private static String wish(String wanted) {
        switch (wanted) {
            case "where=0": return "where=9 and face=0";
            case "where=1": return "where=1 and face=0 and not cross";
            default: return wanted;
        }
    }

    private static int expected(int[] numbers, int move) {
        return move == 5 ? numbers[5] + numbers[3] : numbers[move];
    }

    private static void tried() {
        HalfCitizen x = Check.told(TEXT);
        Check.due("nobody is bound", x.tried(0, 0), 6);
        Check.due("nothing is barred", x.tried(1, 0), 4);
        Check.due("other hearts", x.tried(2, 0), 4);
        Check.due("al does nothing", x.tried(3, 0), 2);
        Check.due("bo does nothing", x.tried(3, 1), 1);
        Check.due("nothing is seized", x.tried(4, 0), 4);
        Check.due("all face north", x.tried(5, 0), 2);
        int[][] none = {{-1, 0}, {6, 0}, {0, 1}, {1, -1}, {2, 1}, {4, 1}, {5, 1}, {3, -1}, {3, 2}};
        for (int[] n : none) {
            Check.due("no such ones", x.tried(n[0], n[1]), -1);
        }
        Check.due("nothing happened", x.count(6) + x.count(7) + x.count(8), 0);
        Check.due("all as it is behind it", x.lawful(0, 0, 2), 0);
        Check.due("without men", new HalfCitizen().tried(0, 0), 0);
    }

    private static void triedLater() {
        HalfCitizen x = Check.told(TEXT);
        x.go(6);
        Check.due("done so far", x.count(7), 2);
        Check.due("left so far", x.count(9), 1);
        Check.due("al does nothing more", x.tried(3, 0), 3);
        Check.due("nothing is seized any more", x.tried(4, 0), 3);
        x.go(18);
        Check.due("the day is over", x.tried(0, 0), 3);
        HalfCitizen y = Check.told("man a 2 west left 0;deed a rhand hit 3;law bind 1;law may face=0;"
                + "man b 2 south left 0;deed b rhand hit 3;");
        Check.due("both turned north", y.tried(5, 0), 2);
        Check.due("nobody turned", y.look(0, 1) * 10 + y.look(1, 1), 32);
        Check.due("as it is", y.tried(1, 0), 0);
    }
}
