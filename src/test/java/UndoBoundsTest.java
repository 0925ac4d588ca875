/** Promises 33 to 36 at their bounds, with what part 4 says of undoing and of an IMAGE. */
public final class UndoBoundsTest {
    private static final int LEAST = Integer.MIN_VALUE;
    private static final int MOST = Integer.MAX_VALUE;
    private static final String CLASHES = "street 12;man a 2 west left 60;man b 9 east right 60;law bind 1;law may 0;fine 5;"
            + "deed a lhand hold 0;deed a rhand hold 0;deed a lfoot hold 0;deed a rfoot hold 0;deed b rhand hold 0;"
            + "deed b lhand hold 1;";

    public static void main(String[] args) {
        undoOfNone();
        undoUpToTwenty();
        undoOfTwentyOne();
        undoOfFreeing();
        undoOfFreeingAmongMany();
        refusedIsNotUndone();
        hourForgets();
        undoTwice();
        backOfNone();
        keepAtOnce();
        keepInPlaceOfOneAhead();
        backToTheEnd();
        backUndoesNothing();
        backRepeated();
        countOfNone();
        countsAtTheirMost();
        Check.end();
    }

    /** "NONE: none" */
    private static void undoOfNone() {
        Check.due("of a new object", new HalfCitizen().undo(), -1);
        HalfCitizen x = Check.told(CLASHES);
        Check.due("of a new text", x.undo(), -1);
        x.move(0, 0);
        Check.due("one", x.undo(), 0);
        Check.due("no more", x.undo(), -1);
        Check.due("and no more", x.undo(), -1);
        Check.due("what can be undone", x.count(13), 0);
        Check.due("moves made", x.count(14), 0);
    }

    /** "(20 at most)": 20 of 20. */
    private static void undoUpToTwenty() {
        HalfCitizen x = Check.told(CLASHES);
        String begun = Check.all(x);
        int[] moves = {0, 0, 1, 2, 3, 5, 5, 4, 2, 3, 0, 1, 1, 1, 3, 5, 5, 2, 4, 0};
        for (int i = 0; i < moves.length; i++) {
            Check.due("moves", x.move(i % 2, moves[i]), true);
            Check.due("can be undone", x.count(13), i + 1);
        }
        for (int left = 19; left >= 0; left--) {
            Check.due("undo", x.undo(), left);
            Check.due("moves made", x.count(14), left);
        }
        Check.due("as at first", Check.all(x).equals(begun), true);
        Check.due("none left", x.undo(), -1);
    }

    /** "(20 at most)": 20 of 21, the latest first. */
    private static void undoOfTwentyOne() {
        HalfCitizen x = Check.told(CLASHES);
        x.move(0, 5);
        String behindOne = Check.allButUndo(x);
        for (int i = 0; i < 20; i++) {
            x.move(i % 2, i % 3);
        }
        Check.due("twenty", x.count(13), 20);
        Check.due("moves made", x.count(14), 21);
        for (int left = 19; left >= 0; left--) {
            Check.due("undo", x.undo(), left);
        }
        Check.due("the first one stays", x.undo(), -1);
        Check.due("as behind the first one", Check.allButUndo(x).equals(behindOne), true);
        Check.due("its step", x.look(0, 0), 3);
        x.move(0, 5);
        Check.due("one more can be undone", x.count(13), 1);
        Check.due("it is", x.undo(), 0);
    }

    /** "MOVES, PARTS freed by call can be undone" */
    private static void undoOfFreeing() {
        HalfCitizen x = Check.told(CLASHES);
        x.go(1);
        Check.due("coin of a, b", x.look(0, 4) * 100 + x.look(1, 4), 4055);
        String ahead = Check.all(x);
        Check.due("frees", x.free(0, 3) && x.free(1, 1) && x.free(0, 0), true);
        Check.due("coin of a, b", x.look(0, 4) * 100 + x.look(1, 4), 3050);
        Check.due("seized", x.look(0, 6) * 100 + x.look(1, 6), 600);
        Check.due("no moves", x.count(14), 0);
        Check.due("undo", x.undo(), 2);
        Check.due("seized again", x.look(0, 6), 7);
        Check.due("undo", x.undo(), 1);
        Check.due("seized again", x.look(1, 6), 2);
        Check.due("undo", x.undo(), 0);
        Check.due("all as ahead", Check.all(x).equals(ahead), true);
    }

    /** Of 24 the first four are given up: two steps, a left hand freed, a turn. */
    private static void undoOfFreeingAmongMany() {
        HalfCitizen x = Check.told(CLASHES);
        x.go(1);
        x.move(0, 5);
        x.move(1, 4);
        x.free(0, 0);
        x.move(1, 0);
        int coin = x.look(0, 4);
        String ahead = Check.allButUndo(x);
        x.free(0, 3);
        for (int i = 0; i < 17; i++) {
            x.move(i % 2, i % 4);
        }
        x.free(1, 1);
        x.free(0, 1);
        Check.due("twenty", x.count(13), 20);
        Check.due("three fines", x.look(0, 4) + x.look(1, 4), coin + 55 - 15);
        for (int left = 19; left >= 0; left--) {
            Check.due("undo", x.undo(), left);
        }
        Check.due("none left", x.undo(), -1);
        Check.due("all as ahead", Check.allButUndo(x).equals(ahead), true);
        Check.due("seized", x.look(0, 6) * 100 + x.look(1, 6), 1402);
    }

    private static void refusedIsNotUndone() {
        HalfCitizen x = Check.told(CLASHES);
        x.move(0, 2);
        Check.due("refused", x.move(0, 6) || x.move(2, 0) || x.free(0, 0) || x.free(0, 4), false);
        Check.due("one can be undone", x.count(13), 1);
        Check.due("one is", x.undo(), 0);
    }

    /** "if no HOUR went by since" */
    private static void hourForgets() {
        HalfCitizen x = Check.told(CLASHES);
        x.move(0, 2);
        Check.due("no hour goes by", x.go(0), 0);
        Check.due("nor at a refused one", x.go(25), -1);
        Check.due("nor by asking", x.chance(1, 0, 0) + x.tried(0, 0), 16);
        Check.due("one can be undone", x.count(13), 1);
        x.go(1);
        Check.due("none can be undone", x.count(13), 0);
        Check.due("none is", x.undo(), -1);
        Check.due("the crossing stays", x.look(0, 2), 1);
        Check.due("the move counts", x.count(14), 1);
        x.move(0, 2);
        Check.due("one can be undone again", x.undo(), 0);
        Check.due("crossed", x.look(0, 2), 1);
    }

    private static void undoTwice() {
        HalfCitizen x = Check.told(CLASHES);
        x.move(0, 5);
        x.move(0, 0);
        x.undo();
        x.move(1, 4);
        Check.due("two can be undone", x.count(13), 2);
        Check.due("b's step first", x.undo(), 1);
        Check.due("b is back", x.look(1, 0), 9);
        Check.due("a isn't yet", x.look(0, 0), 3);
        Check.due("then a's step", x.undo(), 0);
        Check.due("a is back", x.look(0, 0), 2);
    }

    /** "NONE: there is none" */
    private static void backOfNone() {
        Check.due("of a new object", new HalfCitizen().back(), -1);
        HalfCitizen x = Check.told(CLASHES);
        x.move(0, 2);
        String ahead = Check.all(x);
        Check.due("of a new text", x.back(), -1);
        Check.due("nothing changed", Check.all(x).equals(ahead), true);
        Check.due("what can be undone stays", x.undo(), 0);
        x.keep();
        Check.tell(x, CLASHES);
        Check.due("behind another text", x.back(), -1);
        x.keep();
        Check.tell(x, "no text");
        Check.due("behind a text with a fault", x.back(), 0);
    }

    /** "An IMAGE is kept: .. which HOUR it is" */
    private static void keepAtOnce() {
        Check.due("of a new object", new HalfCitizen().keep(), 0);
        HalfCitizen x = Check.told(CLASHES);
        for (int hour = 0; hour <= 24; hour++) {
            Check.due("keep", x.keep(), hour);
            x.move(0, 2);
            Check.due("back", x.back(), hour);
            Check.due("uncrossed", x.look(0, 2), 0);
            x.go(hour < 24 ? 1 : 0);
        }
    }

    /** "(in place of one ahead)" */
    private static void keepInPlaceOfOneAhead() {
        HalfCitizen x = Check.told(CLASHES);
        x.keep();
        x.go(1);
        x.move(0, 3);
        String then = Check.allButUndo(x);
        Check.due("another", x.keep(), 1);
        Check.due("what can be undone stays", x.count(13), 1);
        x.go(2);
        Check.due("back to it", x.back(), 1);
        Check.due("as then", Check.allButUndo(x).equals(then), true);
        Check.due("once more", x.back(), 1);
    }

    /** "All (but PRINTS) is as in the IMAGE", from the end of the DAY to its begin. */
    private static void backToTheEnd() {
        HalfCitizen x = Check.told(CLASHES + "law tax 1;");
        String begun = Check.all(x);
        x.keep();
        x.move(1, 2);
        x.go(24);
        Check.due("taxed and fined", x.count(10), 120 - 30 - 8);
        Check.due("back", x.back(), 0);
        Check.due("all as it begun", Check.all(x).equals(begun), true);
        x.go(24);
        x.keep();
        x.move(0, 0);
        Check.due("back at the end", x.back(), 24);
        Check.due("the day is over", x.go(1), -1);
        Check.due("west", x.look(0, 1), 3);
    }

    /** "(nothing to undo then)"; PRINTS stay. */
    private static void backUndoesNothing() {
        HalfCitizen x = Check.told(CLASHES);
        x.move(0, 5);
        x.print(0, 0, 2);
        x.keep();
        x.move(0, 5);
        x.print(1, 0, 4);
        Check.due("back", x.back(), 0);
        Check.due("nothing to undo", x.count(13), 0);
        Check.due("nothing is", x.undo(), -1);
        Check.due("moves made", x.count(14), 1);
        Check.due("prints", x.count(11), 2);
        Check.due("both are known", x.whose(), 0);
    }

    private static void backRepeated() {
        HalfCitizen x = Check.told(CLASHES);
        x.go(1);
        x.free(0, 2);
        x.keep();
        for (int i = 0; i < 3; i++) {
            x.free(0, 0);
            x.go(3);
            Check.due("the image stays as it was", x.back(), 1);
            Check.due("seized", x.look(0, 6), 11);
            Check.due("coin", x.look(0, 4), 35);
            Check.due("b's second deed is to come", x.deed(5, 4), 0);
        }
    }

    /** "NONE for another what" */
    private static void countOfNone() {
        HalfCitizen x = Check.told(CLASHES);
        int[] none = {-1, 15, LEAST, MOST};
        for (int what : none) {
            Check.due("count(" + what + ")", x.count(what), -1);
        }
        Check.due("the last what", x.count(14), 0);
    }

    /** All that is counted, at the most that there may be. */
    private static void countsAtTheirMost() {
        StringBuilder text = new StringBuilder("street 12;");
        for (int i = 0; i < 5; i++) {
            text.append("land ").append((char) ('p' + i)).append(" 0 0;"
                    + "man ").append((char) ('p' + i)).append(" 5 west left 99;");
        }
        String[] parts = {"lhand", "rhand", "lfoot", "rfoot"};
        for (int i = 0; i < 8; i++) {
            text.append("bar ").append((char) ('p' + i / 4)).append(' ').append(parts[i % 4]).append(';');
        }
        for (int i = 0; i < 12; i++) {
            text.append("deed ").append((char) ('p' + i / 4)).append(' ').append(parts[i % 4]).append(" hold 0;");
        }
        text.append("fine 0;law bind 1");
        for (int i = 0; i < 31; i++) {
            text.append("+1");
        }
        HalfCitizen x = Check.told(text + ";law may 0;");
        for (int i = 0; i < 24; i++) {
            x.print(0, 0, 0);
        }
        x.go(24);
        for (int i = 0; i < 30; i++) {
            x.move(0, 0);
        }
        int[] due = {12, 5, 5, 12, 8, 64, 24, 0, 12, 0, 495, 24, 24, 20, 30};
        for (int what = 0; what < 15; what++) {
            Check.due("count(" + what + ")", x.count(what), due[what]);
        }
    }
}
