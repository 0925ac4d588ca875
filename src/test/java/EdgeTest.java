import java.util.NoSuchElementException;
import java.util.Random;

/** Numbers of any size in any state: no call throws by itself, and what is refused changes nothing. */
public final class EdgeTest {
    private static final int[] NUMBERS = {Integer.MIN_VALUE, Integer.MIN_VALUE + 1, -65536, -3, -2, -1, 0, 1, 2, 3, 4, 5, 6,
        11, 12, 13, 23, 24, 25, 31, 32, 33, 63, 64, 65, 99, 100, 511, 512, 65536, Integer.MAX_VALUE - 1,
        Integer.MAX_VALUE};
    private static final String[] TEXTS = {"",
        "street 2;man a 0 north left 0;", "street 12;man a 11 south right 99;land z 0 11;bar z lhand;bar z rhand;",
        "street 12;land a 0 11;land b 3 3;land c 5 7;land d 7 9;land e 11 11;bar a lfoot;bar b rfoot;bar c lhand;"
            + "bar d rhand;bar e lhand;man a 0 north left 50;man b 11 west right 1;man c 5 south left 3;man d 5 east right 9;"
            + "man e 7 north left 99;deed a lhand hit 0;deed b rhand hit 0;deed c lfoot pass 0;deed d rfoot sign 1;"
            + "deed e lhand hit 2;deed a lhand hold 2;deed a rhand hit 23;law bind part+side+where-face*cross/(hour-1);"
            + "law may 9999*9999*9999*part/where;law tax 9999*9999*9999-hour*face;fine 3;"};

    private static Random random;

    public static void main(String[] args) {
        for (int run = 0; run < 120; run++) {
            random = new Random(run);
            HalfCitizen x = new HalfCitizen();
            Check.tell(x, TEXTS[run % TEXTS.length]);
            for (int i = 0; i < 400; i++) {
                Check.due("a call throws by itself in run " + run, calm(x, random.nextInt(36)), true);
            }
        }
        Check.end();
    }

    private static int some() {
        return random.nextInt(5) == 0 ? random.nextInt() : NUMBERS[random.nextInt(NUMBERS.length)];
    }

    private static int few() {
        return random.nextInt(4) == 0 ? some() : random.nextInt(5);
    }

    private static boolean calm(HalfCitizen x, int call) {
        try {
            if (call < 18) {
                first(x, call);
            } else {
                second(x, call);
            }
            return true;
        } catch (RuntimeException e) {
            System.out.println("call " + call + " threw " + e);
            return false;
        }
    }

    private static void first(HalfCitizen x, int call) {
        switch (call) {
            case 0 -> x.feed(some(), some(), some(), some(), some());
            case 1 -> x.text(random.nextInt(50) == 0 ? few() : some() | 1 << 31);
            case 2 -> x.fault(some());
            case 3 -> x.named(few(), some());
            case 4 -> look(x, few(), few());
            case 5 -> x.land(some());
            case 6 -> x.part(few(), few(), few());
            case 7 -> x.lawful(few(), few(), few());
            case 8 -> x.law(few(), few(), few(), few());
            case 9 -> x.deed(some(), few());
            case 10 -> x.clash();
            case 11 -> x.move(few(), few());
            case 12 -> x.free(few(), few());
            case 13 -> x.go(random.nextInt(9) == 0 ? few() : some());
            case 14 -> x.fewest(few(), few(), few());
            case 15 -> x.way(few(), few(), few(), few());
            case 16 -> x.joint(few(), few(), few(), few(), few());
            default -> x.stands(few());
        }
    }

    private static void second(HalfCitizen x, int call) {
        switch (call) {
            case 18 -> x.match(few());
            case 19 -> x.loopholes(few(), few());
            case 20 -> x.loophole(few(), few(), some());
            case 21 -> x.shut(few(), few());
            case 22 -> x.rests(few(), few());
            case 23 -> x.rest(few(), few(), some());
            case 24 -> x.freed(few());
            case 25 -> x.print(some(), few(), some());
            case 26 -> x.strike(some());
            case 27 -> x.known(some());
            case 28 -> x.whose();
            case 29 -> x.chance(some(), few(), some());
            case 30 -> x.tried(few(), random.nextInt(3) == 0 ? few() : 0);
            case 31 -> x.undo();
            case 32 -> x.keep();
            case 33 -> x.back();
            default -> x.count(some());
        }
    }

    /** Only look may throw: the two that the document names, and only where it says so. */
    private static void look(HalfCitizen x, int man, int what) {
        boolean isMan = man >= 0 && man < x.count(2);
        try {
            x.look(man, what);
            Check.due("look throws nothing", isMan && what >= 0 && what < 7, true);
        } catch (IndexOutOfBoundsException e) {
            Check.due("look: no such man", isMan, false);
            Check.due("thrown by a throw", e.getClass() == IndexOutOfBoundsException.class, true);
        } catch (NoSuchElementException e) {
            Check.due("look: no such what", isMan && (what < 0 || what >= 7), true);
        }
    }
}
