/** Promises 13 to 17 and 33 to 36: move, free, go, fewest, way, undo, keep, back, count. */
public final class MovesTest {
    private static final String CLASHES = "man a 2 west left 30;law bind 1;law may 0;fine 5;"
            + "deed a lhand hold 0;deed a rhand hold 0;deed a lfoot hold 0;deed a rfoot hold 0;deed a lhand pass 1;";

    public static void main(String[] args) {
        move();
        free();
        go();
        tax();
        fewest();
        undo();
        undoOfMany();
        images();
        count();
        Check.end();
    }

    private static void move() {
        HalfCitizen x = Check.told("street 3;man a 1 north left 0;");
        int[] faces = {1, 2, 3, 0};
        for (int face : faces) {
            Check.due("a turn", x.move(0, 0), true);
            Check.due("faces", x.look(0, 1), face);
        }
        int[] back = {3, 2, 1, 0};
        for (int face : back) {
            Check.due("a turn the other way", x.move(0, 1), true);
            Check.due("faces", x.look(0, 1), face);
        }
        Check.due("crosses", x.move(0, 2) && x.move(0, 3), true);
        Check.due("hands crossed", x.look(0, 2), 1);
        Check.due("feet crossed", x.look(0, 3), 1);
        Check.due("uncrosses", x.move(0, 2) && x.move(0, 3), true);
        Check.due("hands uncrossed", x.look(0, 2), 0);
        Check.due("feet uncrossed", x.look(0, 3), 0);
        Check.due("a step more", x.move(0, 5), true);
        Check.due("none beyond", x.move(0, 5), false);
        Check.due("at", x.look(0, 0), 2);
        Check.due("two steps less", x.move(0, 4) && x.move(0, 4), true);
        Check.due("none below", x.move(0, 4), false);
        Check.due("at", x.look(0, 0), 0);
        int[][] none = {{-1, 0}, {1, 0}, {0, -1}, {0, 6}};
        for (int[] n : none) {
            Check.due("no such move", x.move(n[0], n[1]), false);
        }
        Check.due("moves made", x.count(14), 15);
    }

    private static void free() {
        HalfCitizen x = Check.told(CLASHES);
        Check.due("nothing seized", x.free(0, 0), false);
        x.go(1);
        Check.due("seized", x.look(0, 6), 15);
        Check.due("coin", x.look(0, 4), 10);
        Check.due("freed", x.free(0, 2), true);
        Check.due("not twice", x.free(0, 2), false);
        Check.due("left", x.look(0, 6), 11);
        Check.due("paid", x.look(0, 4), 5);
        Check.due("freed", x.free(0, 0), true);
        Check.due("no coin", x.free(0, 1), false);
        Check.due("no such part", x.free(0, 4), false);
        Check.due("no such part", x.free(0, -1), false);
        Check.due("no such man", x.free(1, 0), false);
        Check.due("no such man", x.free(-1, 0), false);
        Check.due("freeing is no move", x.count(14), 0);
        x.go(1);
        Check.due("clashes anew", x.deed(4, 4), 2);
        HalfCitizen y = Check.told("man a 2 west left 0;fine 0;deed a lhand hit 0;");
        y.go(1);
        Check.due("free for nothing", y.free(0, 0), true);
    }

    private static void go() {
        HalfCitizen x = Check.told(CLASHES);
        Check.due("go(-1)", x.go(-1), -1);
        Check.due("go(25)", x.go(25), -1);
        Check.due("go(0)", x.go(0), 0);
        Check.due("to come", x.deed(0, 4), 0);
        Check.due("go(2)", x.go(2), 2);
        Check.due("left", x.deed(4, 4), 3);
        Check.due("go(23)", x.go(23), -1);
        Check.due("hour", x.count(6), 2);
        Check.due("go(22)", x.go(22), 24);
        Check.due("go(0) at the end", x.go(0), 24);
        Check.due("go(1) at the end", x.go(1), -1);
    }

    private static void tax() {
        taxed("part+1", 12, 2);
        taxed("part+1", 7, 0);
        taxed("100", 40, 4);
        taxed("0-5", 40, 40);
        taxed("1/0", 40, 40);
        taxed("where/9*2", 40, 32);
        taxed("deed+1", 40, 36);
        HalfCitizen x = Check.told("man a 0 west left 40;");
        x.go(24);
        Check.due("no tax", x.look(0, 4), 40);
    }

    private static void taxed(String law, int coin, int left) {
        HalfCitizen x = Check.told("man a 0 west left " + coin + ";law tax " + law + ";");
        x.go(23);
        Check.due("not yet taxed " + law, x.look(0, 4), coin);
        x.go(1);
        Check.due("taxed " + law, x.look(0, 4), left);
    }

    private static void fewest() {
        HalfCitizen x = Check.told("street 6;land a 0 3;bar a lhand;man a 2 north left 0;law bind 0;"
                + "man b 5 north left 0;");
        Check.due("two moves", x.fewest(0, 0, 2), 2);
        Check.due("crosses first", x.way(0, 0, 2, 0), 2);
        Check.due("then a step", x.way(0, 0, 2, 1), 5);
        Check.due("no third", x.way(0, 0, 2, 2), -2);
        Check.due("far too many", x.way(0, 0, 2, Integer.MAX_VALUE), -2);
        Check.due("no such k", x.way(0, 0, 2, -1), -1);
        Check.due("none so low", x.way(0, 0, 2, Integer.MIN_VALUE), -1);
        Check.due("none to make", x.fewest(0, 1, 2), 0);
        Check.due("no move then", x.way(0, 1, 2, 0), -2);
        Check.due("no such k of none to make", x.way(0, 1, 2, -1), -1);
        x.move(0, 0);
        Check.due("two from the east", x.fewest(0, 0, 0), 2);
        Check.due("turns first", x.way(0, 0, 0, 0), 0);
        Check.due("then a step, south", x.way(0, 0, 0, 1), 5);
        int[][] none = {{-1, 0, 0}, {2, 0, 0}, {0, -1, 0}, {0, 4, 0}, {0, 0, -1}, {0, 0, 4}};
        for (int[] n : none) {
            Check.due("fewest of no such ones", x.fewest(n[0], n[1], n[2]), -1);
            Check.due("way of no such ones", x.way(n[0], n[1], n[2], 0), -1);
        }
        HalfCitizen y = Check.told("man a 2 north left 9;law bind 1;law may hour>0 and cross;deed a rhand hit 0;");
        Check.due("not at this hour", y.fewest(0, 1, 2), -2);
        Check.due("no way", y.way(0, 1, 2, 0), -2);
        Check.due("no way, and no such k", y.way(0, 1, 2, -1), -1);
        y.go(1);
        Check.due("at the next, seized or not", y.fewest(0, 1, 2), 1);
        Check.due("by crossing hands", y.way(0, 1, 2, 0), 2);
        Check.due("by crossing feet", y.way(0, 3, 2, 0), 3);
    }

    private static void undo() {
        HalfCitizen x = Check.told(CLASHES);
        for (int i = 0; i < 25; i++) {
            x.move(0, 0);
        }
        Check.due("moves", x.count(14), 25);
        Check.due("twenty at most", x.count(13), 20);
        Check.due("go(0) is no hour", x.go(0), 0);
        for (int left = 19; left >= 0; left--) {
            Check.due("undo", x.undo(), left);
        }
        Check.due("none left", x.undo(), -1);
        Check.due("five moves stay", x.count(14), 5);
        Check.due("west and five turns", x.look(0, 1), 0);
        x.move(0, 2);
        x.go(1);
        Check.due("an hour went by", x.undo(), -1);
        Check.due("the move stays", x.look(0, 2), 1);
        x.free(0, 1);
        x.move(0, 5);
        x.free(0, 3);
        Check.due("failed ones don't count", x.free(0, 3) || x.move(0, 9), false);
        Check.due("three", x.count(13), 3);
        Check.due("undo a freeing", x.undo(), 2);
        Check.due("seized again", x.look(0, 6), 13);
        Check.due("coin again", x.look(0, 4), 5);
        Check.due("undo a step", x.undo(), 1);
        Check.due("cell again", x.look(0, 0), 2);
        Check.due("moves", x.count(14), 6);
        Check.due("undo a freeing", x.undo(), 0);
        Check.due("all seized", x.look(0, 6), 15);
        Check.due("all coin", x.look(0, 4), 10);
    }

    /** The oldest is given up, whatever it was. */
    private static void undoOfMany() {
        HalfCitizen x = Check.told("man a 2 north left 30;man b 5 west left 40;law bind 1;law may 0;fine 5;"
                + "deed a lhand hold 0;deed a rhand hold 0;deed b lfoot hold 0;deed b rfoot hold 0;");
        x.go(1);
        for (int i = 0; i < 3; i++) {
            x.move(0, 5);
            x.move(1, 4);
        }
        x.free(0, 0);
        x.free(1, 3);
        x.move(1, 2);
        x.free(0, 1);
        for (int i = 0; i < 7; i++) {
            x.move(0, 0);
            x.move(1, 1);
        }
        x.free(1, 2);
        Check.due("twenty of 25", x.count(13), 20);
        for (int left = 19; left >= 0; left--) {
            Check.due("undo", x.undo(), left);
        }
        Check.due("five moves stay", x.count(14), 5);
        Check.due("three steps of a", x.look(0, 0), 5);
        Check.due("two steps of b", x.look(1, 0), 3);
        Check.due("faces of a", x.look(0, 1), 0);
        Check.due("faces of b", x.look(1, 1), 3);
        Check.due("hands of b", x.look(1, 2), 0);
        Check.due("seized of a", x.look(0, 6), 3);
        Check.due("seized of b", x.look(1, 6), 12);
        Check.due("coin of a", x.look(0, 4), 20);
        Check.due("coin of b", x.look(1, 4), 30);
    }

    private static void images() {
        HalfCitizen x = Check.told(CLASHES);
        Check.due("no image", x.back(), -1);
        x.go(1);
        x.move(0, 5);
        Check.due("keep", x.keep(), 1);
        Check.due("undo stays", x.count(13), 1);
        x.free(0, 0);
        x.move(0, 0);
        x.print(0, 0, 0);
        x.go(5);
        Check.due("clashed anew", x.deed(4, 4), 2);
        Check.due("back", x.back(), 1);
        Check.due("hour", x.count(6), 1);
        Check.due("to come again", x.deed(4, 4), 0);
        Check.due("seized", x.look(0, 6), 15);
        Check.due("coin", x.look(0, 4), 10);
        Check.due("face", x.look(0, 1), 3);
        Check.due("cell", x.look(0, 0), 3);
        Check.due("moves", x.count(14), 1);
        Check.due("nothing to undo", x.undo(), -1);
        Check.due("prints stay", x.count(11), 1);
        x.go(2);
        Check.due("back again", x.back(), 1);
        x.go(3);
        Check.due("another", x.keep(), 4);
        x.go(1);
        Check.due("back to it", x.back(), 4);
    }

    private static void count() {
        HalfCitizen x = Check.told("street 6;land a 0 3;land b 2 4;bar b lhand;man a 1 south right 7;"
                + "man c 2 south right 8;deed a rhand hit 3;deed a lhand pass 2;deed a lhand pass 3;deed c lfoot hold 0;"
                + "law tax 1+1;");
        int[] first = {6, 2, 2, 4, 1, 3, 0, 0, 0, 0, 15, 0, 0, 0, 0};
        counts(x, first);
        x.go(4);
        x.move(0, 0);
        x.free(0, 1);
        x.print(0, 0, 0);
        x.print(5, 1, 0);
        x.strike(0);
        x.known(2);
        int[] then = {6, 2, 2, 4, 1, 3, 4, 1, 2, 1, 8, 3, 2, 1, 1};
        counts(x, then);
        x.known(-1);
        x.print(5, 1, 0);
        Check.due("known by all", x.count(12), 4);
        Check.due("count(15)", x.count(15), -1);
        Check.due("count(-1)", x.count(-1), -1);
    }

    private static void counts(HalfCitizen x, int[] due) {
        for (int i = 0; i < due.length; i++) {
            Check.due("count(" + i + ")", x.count(i), due[i]);
        }
    }
}
