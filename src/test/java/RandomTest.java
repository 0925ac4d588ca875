import java.util.NoSuchElementException;
import java.util.Random;

/** Random runs of at most 512 calls, in which the program and the model are asked the same. */
public final class RandomTest {
    private static final int RUNS = 320;
    private static final String[] WORDS = ("street land man deed bar fine seed law north east south west left right lhand "
            + "rhand lfoot rfoot hold sign hit pass bind may tax or and not part side where face cross hour a b c d e "
            + "streets ; ; ; ( ) < <= = <> >= > + - * / 0 1 5 12 24 100 10000 ! # \n").split(" ");
    private static final String[] NAMES = {"part", "side", "where", "face", "cross", "deed", "hour"};
    private static final String[] JOINS = {"+", "-", "*", "/", "<", "<=", "=", "<>", ">=", ">", " and ", " or "};
    private static final String[] PARTS = {"lhand", "rhand", "lfoot", "rfoot"};
    private static final String[] KINDS = {"hold", "sign", "hit", "pass"};
    private static final String[] FACES = {"north", "east", "south", "west"};

    private final Random random;
    private final int run;
    private final HalfCitizen x = new HalfCitizen();
    private final Model m = new Model();

    private RandomTest(int run) {
        this.run = run;
        random = new Random(run * 7919L + 17);
    }

    public static void main(String[] args) {
        int runs = args.length > 0 ? Integer.parseInt(args[0]) : RUNS;
        for (int run = 0; run < runs; run++) {
            new RandomTest(run).play();
        }
        Check.end();
    }

    private void play() {
        int calls = 0;
        while (calls < 470) {
            if (calls == 0 || random.nextInt(90) == 0) {
                calls += tellText();
            } else {
                ask();
                calls += 2;
            }
        }
    }

    private int tellText() {
        String text = random.nextInt(12) == 0 ? noise() : likelyText();
        if (random.nextInt(5) == 0) {
            text = spoilt(text);
        }
        text = text.length() > 690 ? text.substring(0, 690) : text;
        int calls = 3;
        for (int i = 0; i < text.length(); i += 20) {
            int[] n = new int[5];
            for (int j = 0; j < 20; j++) {
                n[j / 4] = n[j / 4] << 8 | (i + j < text.length() ? text.charAt(i + j) : ' ');
            }
            due("feed", x.feed(n[0], n[1], n[2], n[3], n[4]), m.feed(n));
            calls++;
        }
        int n = random.nextInt(30) == 0 ? random.nextInt(720) - 10 : Math.min(text.length(), m.tape.length());
        due("text of " + text, x.text(n), m.text(n));
        due("fault(0) of " + text, x.fault(0), m.fault(0));
        due("fault(1) of " + text, x.fault(1), m.fault(1));
        return calls;
    }

    private String pick(String[] words) {
        return words[random.nextInt(words.length)];
    }

    private String noise() {
        StringBuilder text = new StringBuilder();
        for (int i = random.nextInt(40); i > 0; i--) {
            text.append(pick(WORDS)).append(random.nextInt(3) == 0 ? "" : " ");
        }
        return text.toString();
    }

    private String spoilt(String text) {
        StringBuilder t = new StringBuilder(text);
        int at = t.length() == 0 ? 0 : random.nextInt(t.length());
        switch (random.nextInt(6)) {
            case 0 -> t.insert(at, pick(WORDS));
            case 4 -> {
                return text.replaceFirst("(?s)(.{" + at + "}[^0-9]*)[0-9]+", "$1" + random.nextInt(200));
            }
            case 5 -> {
                String[] lines = text.split("(?<=;)");
                return text + pick(lines).replaceFirst(" [a-e]", " " + (char) ('a' + random.nextInt(7))) + ";";
            }
            case 1 -> t.setLength(at);
            case 2 -> t.insert(at, t.substring(at / 2, at));
            default -> t.delete(at, Math.min(t.length(), at + 1 + random.nextInt(6)));
        }
        return t.toString();
    }

    private String likelyText() {
        StringBuilder t = new StringBuilder();
        int cells = 8;
        if (random.nextInt(4) > 0) {
            cells = 2 + random.nextInt(11);
            t.append("street ").append(cells).append(";");
        }
        int lands = random.nextInt(6);
        int men = 1 + random.nextInt(5);
        for (int i = 0; i < lands; i++) {
            int from = random.nextInt(cells);
            t.append("land ").append((char) ('a' + i)).append(' ').append(from).append(' ')
                    .append(from + random.nextInt(cells - from)).append(";");
        }
        for (int i = 0; i < men; i++) {
            t.append("man ").append((char) ('a' + i)).append(' ').append(random.nextInt(cells)).append(' ')
                    .append(pick(FACES)).append(random.nextBoolean() ? " left " : " right ")
                    .append(random.nextInt(random.nextBoolean() ? 100 : 20)).append(";");
        }
        for (int i = random.nextInt(7); i > 0 && lands > 0; i--) {
            String bar = "bar " + (char) ('a' + random.nextInt(lands)) + " " + pick(PARTS) + ";";
            t.append(t.indexOf(bar) >= 0 && random.nextInt(9) > 0 ? "" : bar);
        }
        for (int i = random.nextInt(13); i > 0; i--) {
            t.append("deed ").append((char) ('a' + random.nextInt(men))).append(' ').append(pick(PARTS)).append(' ')
                    .append(pick(KINDS)).append(' ').append(random.nextInt(random.nextBoolean() ? 24 : 6))
                    .append(";");
        }
        if (random.nextInt(4) == 0) {
            return t.append("law bind 1;law may ").append(sentence(1)).append(";").toString();
        }
        String[] rules = {"bind", "may", "tax"};
        for (String rule : rules) {
            if (random.nextInt(3) > 0) {
                t.append("law ").append(rule).append(' ').append(sentence(random.nextInt(4))).append(";");
            }
        }
        t.append(random.nextInt(3) == 0 ? "" : "fine " + random.nextInt(12) + ";");
        t.append(random.nextInt(3) > 0 ? "" : "seed " + random.nextInt(100000) + ";");
        return t.toString();
    }

    private String sentence(int depth) {
        if (depth == 0) {
            return random.nextInt(3) > 0 ? pick(NAMES) : "" + random.nextInt(random.nextInt(4) == 0 ? 10000 : 4);
        }
        String left = sentence(depth - 1);
        String right = sentence(random.nextInt(depth));
        return switch (random.nextInt(random.nextInt(4) == 0 ? 5 : 4)) {
            case 0 -> "(" + inner(left) + pick(JOINS) + inner(right) + ")";
            case 1 -> "(not " + left + ")" + pick(JOINS) + inner(right);
            case 2 -> "not " + inner(left);
            case 3 -> inner(left) + pick(JOINS) + inner(right);
            default -> left + pick(JOINS) + right;
        };
    }

    private static String inner(String sentence) {
        return sentence.matches("[a-z0-9]+") ? sentence : "(" + sentence + ")";
    }

    private int some(int most) {
        return random.nextInt(25) == 0 ? random.nextInt(most * 2 + 4) - 2 : random.nextInt(most);
    }

    private int man() {
        return some(Math.max(1, m.told.men.size()));
    }

    private void due(String call, long got, long want) {
        Check.due("run " + run + ": " + call, got, want);
    }

    private void due(String call, boolean got, boolean want) {
        Check.due("run " + run + ": " + call, got, want);
    }

    private void ask() {
        int a = man();
        int b = man();
        int p = some(4);
        int q = some(4);
        int k = some(4);
        switch (random.nextInt(34)) {
            case 0 -> due("fault", x.fault(p), m.fault(p));
            case 1 -> {
                int letters = Check.letters("" + (char) ('a' + random.nextInt(6)));
                due("named", x.named(p, letters), m.named(p, letters));
            }
            case 2 -> look(a, some(7));
            case 3 -> due("land", x.land(a * p), m.land(a * p));
            case 4 -> due("part", x.part(a, p, q), m.part(a, p, q));
            case 5 -> due("lawful", x.lawful(a, p, k), m.lawful(a, p, k));
            case 6 -> due("law", x.law(q, a, p, k), m.law(q, a, p, k));
            case 7 -> due("deed", x.deed(a + p, 4), m.deed(a + p, 4));
            case 8 -> due("clash", x.clash(), m.clash());
            case 9, 10, 11 -> {
                int move = some(6);
                due("move", x.move(a, move), m.move(a, move));
            }
            case 12, 13 -> due("free", x.free(a, p), m.free(a, p));
            case 14 -> {
                int n = random.nextInt(20) == 0 ? some(24) : random.nextInt(4);
                due("go", x.go(n), m.go(n));
            }
            case 15 -> due("fewest", x.fewest(a, p, k), m.fewest(a, p, k));
            case 16 -> due("way", x.way(a, p, k, q), m.way(a, p, k, q));
            case 17 -> due("joint", x.joint(a, p, b, q, k), m.joint(a, p, b, q, k));
            case 18 -> due("stands", x.stands(a), m.stands(a));
            case 19 -> due("match", x.match(a), m.match(a));
            case 20 -> due("loopholes", x.loopholes(a, k), m.loopholes(a, k));
            case 21 -> {
                int n = some(60);
                due("loophole", x.loophole(a, k, n), m.loophole(a, k, n));
            }
            case 22 -> due("shut", x.shut(a, k), m.shut(a, k));
            case 23 -> due("rests", x.rests(a, b), m.rests(a, b));
            case 24 -> {
                int n = some(12);
                due("rest", x.rest(a, b, n), m.rest(a, b, n));
            }
            case 25 -> due("freed", x.freed(a), m.freed(a));
            default -> askMore(a, p);
        }
        int what = some(15);
        due("count(" + what + ")", x.count(what), m.count(what));
    }

    private void askMore(int a, int p) {
        switch (random.nextInt(9)) {
            case 0 -> {
                int moves = random.nextBoolean() ? some(5) : some(100);
                int cell = some(m.told.cells);
                due("print", x.print(moves, p, cell), m.print(moves, p, cell));
            }
            case 1 -> {
                int n = some(m.prints.size() + 1);
                due("strike", x.strike(n), m.strike(n));
            }
            case 2 -> {
                int n = random.nextBoolean() ? -1 : some(m.prints.size() + 1);
                due("known", x.known(n), m.known(n));
            }
            case 3 -> due("whose", x.whose(), m.whose());
            case 4 -> {
                int seed = random.nextInt();
                int n = random.nextInt(4);
                due("chance", x.chance(seed, a, n), m.chance(seed, a, n));
            }
            case 5 -> {
                int what = some(6);
                int i = what == 3 ? a : random.nextInt(20) / 19;
                due("tried(" + what + ", " + i + ")", x.tried(what, i), m.tried(what, i));
            }
            case 6 -> due("undo", x.undo(), m.undo());
            case 7 -> due("keep", x.keep(), m.keep());
            default -> due("back", x.back(), m.back());
        }
    }

    private void look(int man, int what) {
        long got;
        long want;
        try {
            got = x.look(man, what);
        } catch (IndexOutOfBoundsException e) {
            got = -100;
        } catch (NoSuchElementException e) {
            got = -200;
        }
        try {
            want = m.look(man, what);
        } catch (IndexOutOfBoundsException e) {
            want = -100;
        } catch (NoSuchElementException e) {
            want = -200;
        }
        due("look", got, want);
    }
}
