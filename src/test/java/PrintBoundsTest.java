/** Promises 27 to 30 at their bounds: PRINTS, STRIKES, by how many it is KNOWN, WHOSE. */
public final class PrintBoundsTest {
    private static final int LEAST = Integer.MIN_VALUE;
    private static final int MOST = Integer.MAX_VALUE;
    private static final String TEXT = "street 6;man a 1 north left 0;man b 4 north left 0;";

    public static void main(String[] args) {
        printAtItsBounds();
        printOfNone();
        twentyFour();
        strikeOfNone();
        knownOfNone();
        knownByNone();
        knownByThoseToCome();
        strikeNotKnownYet();
        strikesFromTheLastOn();
        strikeTwice();
        whoseWithout();
        atOnce();
        oneMoveOrNone();
        farthestPrints();
        manyMovesLate();
        turnsWrapAround();
        lastOfTheStreet();
        stayingAtTheEnds();
        fromTheFirstState();
        Check.end();
    }

    /** "A PRINT (MOVES 0 .. 99, a PART, a CELL): its number" */
    private static void printAtItsBounds() {
        HalfCitizen x = Check.told(TEXT);
        Check.due("the least", x.print(0, 0, 0), 0);
        Check.due("the most", x.print(99, 3, 5), 1);
        Check.due("the same again", x.print(99, 3, 5), 2);
        Check.due("prints", x.count(11), 3);
        HalfCitizen y = Check.told("street 12;");
        Check.due("the last of twelve cells", y.print(0, 0, 11), 0);
        Check.due("the last of two", Check.told("street 2;").print(0, 0, 1), 0);
    }

    /** "NONE: no such ones" */
    private static void printOfNone() {
        HalfCitizen x = Check.told(TEXT);
        int[] moves = {-1, 100, LEAST, MOST};
        int[] parts = {-1, 4, LEAST, MOST};
        int[] cells = {-1, 6, LEAST, MOST};
        for (int i = 0; i < 4; i++) {
            Check.due("print(" + moves[i] + ", 0, 0)", x.print(moves[i], 0, 0), -1);
            Check.due("print(0, " + parts[i] + ", 0)", x.print(0, parts[i], 0), -1);
            Check.due("print(0, 0, " + cells[i] + ")", x.print(0, 0, cells[i]), -1);
        }
        Check.due("none came", x.count(11), 0);
        Check.due("whose", x.whose(), 3);
        Check.due("the next is the first", x.print(0, 0, 0), 0);
    }

    /** "or there are 24" */
    private static void twentyFour() {
        HalfCitizen x = Check.told(TEXT);
        for (int i = 0; i < 12; i++) {
            Check.due("print", x.print(0, 0, 0), 2 * i);
            Check.due("strike", x.strike(2 * i), 2 * i + 1);
        }
        Check.due("all are struck", x.whose(), 3);
        Check.due("no more prints", x.print(0, 0, 0), -1);
        Check.due("no more strikes", x.strike(23), -1);
        Check.due("there are", x.count(11), 24);
        Check.due("nothing came", x.whose(), 3);
        Check.due("by all 24", x.known(24), true);
        Check.due("by 25", x.known(25), false);
        HalfCitizen y = Check.told(TEXT);
        for (int i = 0; i < 23; i++) {
            y.print(0, 0, 0);
        }
        Check.due("the 24th may be a strike", y.strike(0), 23);
        Check.due("no more strikes", y.strike(0), -1);
        Check.due("begun anew", Check.tell(y, TEXT), 3);
        Check.due("the first again", y.print(0, 0, 0), 0);
    }

    /** "NONE: no such PRINT": it must be there already. */
    private static void strikeOfNone() {
        HalfCitizen x = Check.told(TEXT);
        Check.due("nothing to strike", x.strike(0), -1);
        x.print(0, 0, 3);
        int[] none = {-1, 1, 24, LEAST, MOST};
        for (int n : none) {
            Check.due("strike(" + n + ")", x.strike(n), -1);
        }
        Check.due("none came", x.count(11), 1);
        Check.due("the print counts", x.whose(), 2);
        Check.due("strike(0)", x.strike(0), 1);
        Check.due("a strike is struck", x.strike(1), 2);
        Check.due("not itself", x.strike(3), -1);
    }

    /** "false: no such n" */
    private static void knownOfNone() {
        HalfCitizen x = Check.told(TEXT);
        Check.due("known(0) of none", x.known(0), true);
        Check.due("known(1) of none", x.known(1), false);
        x.print(0, 0, 0);
        x.print(0, 0, 3);
        Check.due("known(1)", x.known(1), true);
        int[] none = {-2, 3, 24, LEAST, MOST};
        for (int n : none) {
            Check.due("known(" + n + ")", x.known(n), false);
        }
        Check.due("it stays by 1", x.count(12), 1);
        Check.due("whose by 1", x.whose(), 1);
        Check.due("known(2)", x.known(2), true);
        Check.due("whose by 2", x.whose(), 0);
    }

    /** "KNOWN by n": by none of them. */
    private static void knownByNone() {
        HalfCitizen x = Check.told(TEXT);
        x.print(0, 0, 5);
        Check.due("all at first", x.whose(), 0);
        x.known(0);
        Check.due("by none", x.whose(), 3);
        x.print(0, 1, 5);
        Check.due("those to come aren't known", x.whose(), 3);
        Check.due("by how many", x.count(12), 0);
    }

    /** "(-1: by all, also those to come)" */
    private static void knownByThoseToCome() {
        HalfCitizen x = Check.told(TEXT);
        x.print(0, 0, 0);
        x.known(1);
        x.print(0, 0, 3);
        Check.due("by the first", x.whose(), 1);
        Check.due("known(-1)", x.known(-1), true);
        Check.due("by both", x.whose(), 0);
        x.strike(0);
        Check.due("and by the strike", x.whose(), 2);
        Check.due("by how many", x.count(12), 3);
        x.known(3);
        x.strike(2);
        Check.due("by three, not by the fourth", x.whose(), 2);
        Check.due("by how many", x.count(12), 3);
    }

    /** "the first n that aren't STRUCK by one of these": a STRIKE behind them strikes none. */
    private static void strikeNotKnownYet() {
        HalfCitizen x = Check.told(TEXT);
        x.print(0, 0, 0);
        x.strike(0);
        x.strike(1);
        int[] due = {3, 1, 3, 1};
        for (int n = 0; n < due.length; n++) {
            x.known(n);
            Check.due("by " + n, x.whose(), due[n]);
        }
    }

    /** "(a STRIKE may be STRUCK: then it doesn't count; asked from the last one on)" */
    private static void strikesFromTheLastOn() {
        HalfCitizen x = Check.told(TEXT);
        x.print(0, 0, 0);
        for (int i = 0; i < 23; i++) {
            Check.due("strike", x.strike(i), i + 1);
            Check.due("behind " + (i + 1) + " strikes", x.whose(), i % 2 == 0 ? 3 : 1);
        }
    }

    /** A PRINT STRUCK twice stays STRUCK, if one of the two is STRUCK. */
    private static void strikeTwice() {
        HalfCitizen x = Check.told(TEXT);
        x.print(0, 0, 0);
        x.strike(0);
        x.strike(0);
        x.strike(1);
        Check.due("one strike is left", x.whose(), 3);
        x.strike(2);
        Check.due("none is left", x.whose(), 1);
        x.strike(3);
        Check.due("the first one again", x.whose(), 3);
    }

    /** "MEN (bits) who could have made all KNOWN ones": all of them, without any. */
    private static void whoseWithout() {
        Check.due("no men", new HalfCitizen().whose(), 0);
        Check.due("two men", Check.told(TEXT).whose(), 3);
        HalfCitizen x = Check.told("man p 0 west left 0;man q 1 west left 0;man r 2 west left 0;man s 3 west left 0;"
                + "man t 4 west left 0;");
        Check.due("five men", x.whose(), 31);
        x.print(0, 2, 4);
        Check.due("the last of them", x.whose(), 16);
    }

    /** Behind 0 MOVES: as the TEXT begins. */
    private static void atOnce() {
        int[][] places = {{0, 2, 0, 2}, {3, 5, 3, 5}};
        for (int part = 0; part < 4; part++) {
            for (int cell = 0; cell < 6; cell++) {
                HalfCitizen x = Check.told(TEXT);
                x.print(0, part, cell);
                int due = (places[0][part] == cell ? 1 : 0) + (places[1][part] == cell ? 2 : 0);
                Check.due("part " + part + " in cell " + cell, x.whose(), due);
            }
        }
    }

    /** "with one MOVE or none at a time" */
    private static void oneMoveOrNone() {
        HalfCitizen x = Check.told("street 6;man a 1 north left 0;");
        x.print(0, 0, 0);
        x.print(1, 0, 0);
        Check.due("none", x.whose(), 1);
        x.print(2, 0, 1);
        Check.due("one, by a turn or a step", x.whose(), 1);
        x.print(3, 0, 2);
        Check.due("one more", x.whose(), 1);
        x.print(4, 0, 4);
        Check.due("hands crossed, too", x.whose(), 1);
        x.print(5, 0, 1);
        Check.due("two at a time", x.whose(), 0);
        HalfCitizen y = Check.told("street 6;man a 1 north left 0;");
        y.print(1, 0, 2);
        y.print(1, 1, 0);
        y.print(1, 2, 0);
        Check.due("hands crossed in one", y.whose(), 1);
        y.print(1, 3, 0);
        Check.due("both feet in one cell", y.whose(), 0);
    }

    /** From one end to the other: as many MOVES as it needs, and one less. */
    private static void farthestPrints() {
        for (int moves = 0; moves < 14; moves++) {
            HalfCitizen x = Check.told("street 12;man a 0 north left 0;");
            x.print(moves, 0, 11);
            Check.due("left hand at the end behind " + moves, x.whose(), moves >= 11 ? 1 : 0);
            HalfCitizen y = Check.told("street 12;man a 0 north left 0;");
            y.print(moves, 1, 11);
            Check.due("right hand at the end behind " + moves, y.whose(), moves >= 10 ? 1 : 0);
        }
    }

    /** "MOVES 0 .. 99": behind 99 of them, and from there back at 98. */
    private static void manyMovesLate() {
        HalfCitizen x = Check.told("street 12;man a 0 west left 0;");
        x.print(99, 0, 11);
        Check.due("time enough", x.whose(), 1);
        x.print(88, 0, 0);
        Check.due("eleven steps in eleven moves", x.whose(), 1);
        x.print(89, 0, 0);
        Check.due("in ten, with a turn at the end", x.whose(), 1);
        x.print(90, 0, 0);
        Check.due("in nine", x.whose(), 0);
    }

    /** From east and from west it is one turn to north, from south it is two: all four PARTS lie as facing north. */
    private static void turnsWrapAround() {
        String[] faces = {"north", "east", "south", "west"};
        int[] turns = {0, 1, 2, 1};
        for (int face = 0; face < 4; face++) {
            for (int moves = 0; moves < 3; moves++) {
                HalfCitizen x = Check.told("man a 3 " + faces[face] + " left 0;");
                for (int part = 0; part < 4; part++) {
                    x.print(moves, part, part % 2 == 0 ? 2 : 4);
                }
                Check.due("north from " + faces[face] + " in " + moves, x.whose(), moves >= turns[face] ? 1 : 0);
                HalfCitizen y = Check.told("man a 3 " + faces[face] + " left 0;");
                both(y, moves, 3);
                Check.due("east or west from " + faces[face] + " in " + moves, y.whose(),
                        moves > 0 || face % 2 == 1 ? 1 : 0);
            }
        }
    }

    /** A hand that lies outside the street makes no PRINT, and a MAN can't leave it. */
    private static void lastOfTheStreet() {
        HalfCitizen x = Check.told("street 2;man a 0 north left 0;");
        x.print(0, 1, 1);
        x.print(0, 0, 1);
        Check.due("both hands in one cell, facing north", x.whose(), 0);
        HalfCitizen y = Check.told("street 2;man a 1 north left 0;");
        y.print(0, 0, 0);
        Check.due("the left hand of the last cell", y.whose(), 1);
        y.print(1, 1, 0);
        Check.due("hands crossed, or turned", y.whose(), 1);
        y.print(1, 0, 0);
        Check.due("both at once", y.whose(), 0);
    }

    /** In the first CELL and in the last one he may stay, and from there step to the one beside it. */
    private static void stayingAtTheEnds() {
        for (int end = 0; end < 2; end++) {
            int cell = 11 * end;
            HalfCitizen x = Check.told("street 12;man a " + cell + " west left 0;");
            both(x, 0, cell);
            both(x, 3, cell);
            Check.due("stays in " + cell, x.whose(), 1);
            both(x, 4, 9 * end + 1);
            Check.due("steps", x.whose(), 1);
            both(x, 5, 11 - cell);
            Check.due("doesn't get to the other end", x.whose(), 0);
        }
    }

    /** Both hands lie in his CELL: he faces east or west. */
    private static void both(HalfCitizen x, int moves, int cell) {
        x.print(moves, 0, cell);
        x.print(moves, 1, cell);
    }

    /** "from their first STATE on": what was done by call and what HOURS went by isn't asked. */
    private static void fromTheFirstState() {
        HalfCitizen x = Check.told(TEXT);
        x.print(0, 1, 2);
        x.move(0, 5);
        x.move(0, 2);
        x.move(1, 4);
        x.move(1, 4);
        x.move(1, 4);
        x.go(5);
        Check.due("a as the text begins", x.whose(), 1);
    }
}
