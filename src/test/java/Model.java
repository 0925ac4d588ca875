import java.math.BigInteger;
import java.util.ArrayDeque;
import java.util.ArrayList;
import java.util.Arrays;
import java.util.HashMap;
import java.util.HashSet;
import java.util.List;
import java.util.Map;
import java.util.NoSuchElementException;
import java.util.Set;
import java.util.TreeSet;

/**
 * The document once more, written slowly and by other means than the program: trees for sentences, sets of states,
 * all subsets tried. The two are asked the same in RandomTest.
 */
final class Model {
    static final class Fault extends RuntimeException {
        private static final long serialVersionUID = 1L;
        final int kind;
        final int place;

        Fault(int kind, int place) {
            this.kind = kind;
            this.place = place;
        }
    }

    record Token(String word, int place) { }

    record Knot(String op, BigInteger value, List<Knot> parts) { }

    record State(int cell, int face, boolean hands, boolean feet) { }

    record Man(String name, State first, boolean right, int coin) { }

    record Land(String name, int from, int to, Set<Integer> bars) { }

    record Deed(int man, int part, int kind, int hour) { }

    record Print(int moves, int part, int cell, int strikes) { }

    static final Set<String> LANGUAGE = new HashSet<>(Arrays.asList(("street land man deed bar fine seed law north east "
            + "south west left right lhand rhand lfoot rfoot hold sign hit pass bind may tax or and not part side where "
            + "face cross deed hour").split(" ")));
    static final List<String> FACES = List.of("north", "east", "south", "west");
    static final List<String> PARTS = List.of("lhand", "rhand", "lfoot", "rfoot");
    static final List<String> KINDS = List.of("hold", "sign", "hit", "pass");
    static final List<String> RULES = List.of("bind", "may", "tax");
    static final List<String> NAMES = List.of("part", "side", "where", "face", "cross", "deed", "hour");
    static final BigInteger MOST = BigInteger.TEN.pow(12);

    /** What a text tells. */
    static final class Told {
        int cells = 8;
        int fine = 5;
        int lines = 0;
        int knots = 0;
        final List<Land> lands = new ArrayList<>();
        final List<Man> men = new ArrayList<>();
        final List<Deed> deeds = new ArrayList<>();
        final Map<String, Knot> laws = new HashMap<>();
        final Set<String> once = new HashSet<>();

        int bars() {
            return lands.stream().mapToInt(l -> l.bars().size()).sum();
        }

        int land(int place) {
            for (int i = lands.size() - 1; i >= 0; i--) {
                if (place >= lands.get(i).from() && place <= lands.get(i).to()) {
                    return i;
                }
            }
            return 9;
        }
    }

    static final class Parser {
        final String text;
        final List<Token> tokens = new ArrayList<>();
        final Told told = new Told();
        int at = 0;
        int open = 0;

        Parser(String text) {
            this.text = text;
            int i = 0;
            while (i < text.length()) {
                char c = text.charAt(i);
                int to = i + 1;
                if (c == 10 || c == 32) {
                    i++;
                    continue;
                }
                if (c >= 'a' && c <= 'z') {
                    while (to < text.length() && text.charAt(to) >= 'a' && text.charAt(to) <= 'z') {
                        to++;
                    }
                } else if (c >= '0' && c <= '9') {
                    while (to < text.length() && text.charAt(to) >= '0' && text.charAt(to) <= '9') {
                        to++;
                    }
                } else if (text.startsWith("<=", i) || text.startsWith(">=", i) || text.startsWith("<>", i)) {
                    to++;
                }
                tokens.add(new Token(text.substring(i, to), i));
                i = to;
            }
        }

        Told read() {
            while (at < tokens.size()) {
                line();
                expect(";");
                told.lines++;
            }
            return told;
        }

        String word() {
            return at < tokens.size() ? tokens.get(at).word() : "";
        }

        int place() {
            return at < tokens.size() ? tokens.get(at).place() : text.length();
        }

        void expect(String word) {
            if (!word().equals(word)) {
                throw new Fault(1, place());
            }
            at++;
        }

        void require(boolean good, int kind) {
            if (!good) {
                throw new Fault(kind, place());
            }
        }

        void line() {
            switch (word()) {
                case "street" -> {
                    require(told.once.add("street"), 3);
                    require(told.lands.isEmpty() && told.men.isEmpty(), 4);
                    at++;
                    told.cells = number(2, 12);
                }
                case "land" -> {
                    require(told.lands.size() < 5, 2);
                    at++;
                    String name = name();
                    require(told.lands.stream().noneMatch(l -> l.name().equals(name)), 3);
                    at++;
                    int from = number(0, told.cells - 1);
                    told.lands.add(new Land(name, from, number(from, told.cells - 1), new TreeSet<>()));
                }
                case "man" -> man();
                case "deed" -> {
                    require(told.deeds.size() < 12, 2);
                    at++;
                    int man = told.men.stream().map(Man::name).toList().indexOf(name());
                    require(man >= 0, 4);
                    at++;
                    told.deeds.add(new Deed(man, choice(PARTS), choice(KINDS), number(0, 23)));
                }
                case "bar" -> {
                    require(told.bars() < 8, 2);
                    at++;
                    int land = told.lands.stream().map(Land::name).toList().indexOf(name());
                    require(land >= 0, 4);
                    at++;
                    int part = PARTS.indexOf(word());
                    require(part >= 0, 1);
                    require(told.lands.get(land).bars().add(part), 3);
                    at++;
                }
                case "fine", "seed" -> {
                    require(told.once.add(word()), 3);
                    boolean fine = word().equals("fine");
                    at++;
                    int value = number(0, fine ? 99 : 99999);
                    told.fine = fine ? value : told.fine;
                }
                case "law" -> {
                    at++;
                    String rule = word();
                    require(RULES.contains(rule), 1);
                    require(!told.laws.containsKey(rule), 3);
                    at++;
                    told.laws.put(rule, either());
                }
                default -> throw new Fault(1, place());
            }
        }

        void man() {
            require(told.men.size() < 5, 2);
            at++;
            String name = name();
            require(told.men.stream().noneMatch(m -> m.name().equals(name)), 3);
            at++;
            int cell = number(0, told.cells - 1);
            int face = choice(FACES);
            boolean right = choice(List.of("left", "right")) == 1;
            told.men.add(new Man(name, new State(cell, face, false, false), right, number(0, 99)));
        }

        String name() {
            require(word().matches("[a-z]{1,6}") && !LANGUAGE.contains(word()), 1);
            return word();
        }

        int number(int least, int most) {
            require(word().matches("[0-9]+"), 1);
            BigInteger value = new BigInteger(word());
            require(value.compareTo(BigInteger.valueOf(least)) >= 0 && value.compareTo(BigInteger.valueOf(most)) <= 0, 2);
            at++;
            return value.intValue();
        }

        int choice(List<String> words) {
            require(words.contains(word()), 1);
            at++;
            return words.indexOf(tokens.get(at - 1).word());
        }

        void knot() {
            require(told.knots < 64, 2);
            told.knots++;
            at++;
        }

        Knot joined(Knot left, List<String> ops, int level) {
            Knot sum = left;
            while (ops.contains(word())) {
                String op = word();
                knot();
                sum = new Knot(op, null, List.of(sum, level(level)));
            }
            return sum;
        }

        Knot level(int level) {
            return switch (level) {
                case 0 -> denied();
                case 1 -> joined(plain(), List.of("*", "/"), 3);
                case 2 -> joined(denied(), List.of("and"), 0);
                default -> plain();
            };
        }

        Knot either() {
            return joined(level(2), List.of("or"), 2);
        }

        Knot denied() {
            if (word().equals("not")) {
                knot();
                return new Knot("not", null, List.of(denied()));
            }
            Knot left = joined(level(1), List.of("+", "-"), 1);
            if (List.of("<", "<=", "=", "<>", ">=", ">").contains(word())) {
                String op = word();
                knot();
                return new Knot(op, null, List.of(left, joined(level(1), List.of("+", "-"), 1)));
            }
            return left;
        }

        Knot plain() {
            if (word().equals("(")) {
                require(open < 8, 2);
                at++;
                open++;
                Knot inner = either();
                expect(")");
                open--;
                return inner;
            }
            String word = word();
            if (word.matches("[0-9]+")) {
                require(new BigInteger(word).compareTo(BigInteger.valueOf(9999)) <= 0, 2);
                knot();
                return new Knot("number", new BigInteger(word), List.of());
            }
            require(NAMES.contains(word), 1);
            knot();
            return new Knot(word, null, List.of());
        }
    }

    /** How things are now. */
    static final class Day {
        int hour = 0;
        int moves = 0;
        final List<State> states = new ArrayList<>();
        final List<Integer> coin = new ArrayList<>();
        final List<Set<Integer>> seized = new ArrayList<>();
        final Map<Integer, Integer> fates = new HashMap<>();

        Day copy() {
            Day d = new Day();
            d.hour = hour;
            d.moves = moves;
            d.states.addAll(states);
            d.coin.addAll(coin);
            for (Set<Integer> s : seized) {
                d.seized.add(new TreeSet<>(s));
            }
            d.fates.putAll(fates);
            return d;
        }

        long fated(int fate) {
            return fates.values().stream().filter(f -> f == fate).count();
        }
    }

    final StringBuilder tape = new StringBuilder();
    Told told = new Told();
    Day now = new Day();
    Day image = null;
    List<Day> undo = new ArrayList<>();
    List<Print> prints = new ArrayList<>();
    int known = -1;
    int fault = 0;
    int faultPlace = -1;
    int otherwise = -1;
    int idle = -1;

    int feed(int... numbers) {
        if (tape.length() > 680) {
            return -1;
        }
        for (int n : numbers) {
            for (int i = 3; i >= 0; i--) {
                tape.append((char) (n >> 8 * i & 255));
            }
        }
        return tape.length();
    }

    int text(int n) {
        if (n < 0 || n > tape.length()) {
            return -2;
        }
        String text = tape.substring(0, n);
        tape.setLength(0);
        fault = 0;
        faultPlace = -1;
        try {
            told = new Parser(text).read();
        } catch (Fault f) {
            fault = f.kind;
            faultPlace = f.place;
            return -1;
        }
        now = new Day();
        for (Man m : told.men) {
            now.states.add(m.first());
            now.coin.add(m.coin());
            now.seized.add(new TreeSet<>());
        }
        for (int d = 0; d < told.deeds.size(); d++) {
            now.fates.put(d, 0);
        }
        image = null;
        undo.clear();
        prints.clear();
        known = -1;
        return told.lines;
    }

    int fault(int what) {
        return what == 0 ? fault : what == 1 ? faultPlace : -1;
    }

    int named(int what, int letters) {
        List<String> names = what == 0 ? told.lands.stream().map(Land::name).toList()
                : what == 1 ? told.men.stream().map(Man::name).toList() : List.of();
        for (int i = 0; i < names.size(); i++) {
            if (Check.letters(names.get(i)) == letters) {
                return i;
            }
        }
        return -1;
    }

    boolean man(int man) {
        return man >= 0 && man < told.men.size();
    }

    static boolean four(int number) {
        return number >= 0 && number < 4;
    }

    int look(int man, int what) {
        if (!man(man)) {
            throw new IndexOutOfBoundsException();
        }
        State s = now.states.get(man);
        return switch (what) {
            case 0 -> s.cell();
            case 1 -> s.face();
            case 2 -> s.hands() ? 1 : 0;
            case 3 -> s.feet() ? 1 : 0;
            case 4 -> now.coin.get(man);
            case 5 -> told.men.get(man).right() ? 1 : 0;
            case 6 -> bits(now.seized.get(man));
            default -> throw new NoSuchElementException();
        };
    }

    static int bits(Set<Integer> set) {
        return set.stream().mapToInt(i -> 1 << i).sum();
    }

    int land(int cell) {
        return cell < 0 || cell >= told.cells ? -1 : told.land(cell) == 9 ? -2 : told.land(cell);
    }

    static int place(State s, int part) {
        boolean left = part == 0 || part == 2;
        boolean crossed = part < 2 ? s.hands() : s.feet();
        if (crossed) {
            left = !left;
        }
        return switch (s.face()) {
            case 0 -> left ? s.cell() - 1 : s.cell() + 1;
            case 2 -> left ? s.cell() + 1 : s.cell() - 1;
            default -> s.cell();
        };
    }

    int side(int man, int part) {
        boolean right = told.men.get(man).right() != (otherwise == 2);
        boolean leftPart = part == 0 || part == 2;
        return leftPart == right ? 1 : 0;
    }

    Long worth(String rule, int man, State s, int part, int kind, int hour) {
        Knot law = told.laws.get(rule);
        if (law == null) {
            return null;
        }
        Map<String, Integer> names = new HashMap<>();
        names.put("part", part);
        names.put("side", side(man, part));
        names.put("where", told.land(place(s, part)));
        names.put("face", s.face());
        names.put("cross", (part < 2 ? s.hands() : s.feet()) ? 1 : 0);
        names.put("deed", rule.equals("may") ? kind : 0);
        names.put("hour", hour);
        BigInteger value = worth(law, names);
        return value == null ? null : value.longValueExact();
    }

    static BigInteger worth(Knot k, Map<String, Integer> names) {
        if (k.parts().isEmpty()) {
            return k.value() != null ? k.value() : BigInteger.valueOf(names.get(k.op()));
        }
        List<BigInteger> v = new ArrayList<>();
        for (Knot part : k.parts()) {
            BigInteger worth = worth(part, names);
            if (worth == null) {
                return null;
            }
            v.add(worth);
        }
        BigInteger a = v.get(0);
        BigInteger b = v.get(v.size() - 1);
        int order = a.compareTo(b);
        if (k.op().equals("/") && b.signum() == 0) {
            return null;
        }
        BigInteger result = switch (k.op()) {
            case "not" -> truth(a.signum() == 0);
            case "or" -> truth(a.signum() != 0 || b.signum() != 0);
            case "and" -> truth(a.signum() != 0 && b.signum() != 0);
            case "<" -> truth(order < 0);
            case "<=" -> truth(order <= 0);
            case "=" -> truth(order == 0);
            case "<>" -> truth(order != 0);
            case ">=" -> truth(order >= 0);
            case ">" -> truth(order > 0);
            case "+" -> a.add(b);
            case "-" -> a.subtract(b);
            case "*" -> a.multiply(b);
            default -> a.divide(b);
        };
        return result.abs().compareTo(MOST) > 0 ? null : result;
    }

    static BigInteger truth(boolean is) {
        return is ? BigInteger.ONE : BigInteger.ZERO;
    }

    boolean bound(int man, State s, int part, int hour) {
        Long value = worth("bind", man, s, part, 0, hour);
        return otherwise != 0 && (value == null ? side(man, part) == 0 : value != 0);
    }

    boolean barred(State s, int part) {
        int land = told.land(place(s, part));
        return otherwise != 1 && land != 9 && told.lands.get(land).bars().contains(part);
    }

    boolean lawful(int man, State s, int part, int kind, int hour) {
        Long may = worth("may", man, s, part, kind, hour);
        boolean mayDo = may == null ? kind != 2 : may != 0;
        return !barred(s, part) && (!bound(man, s, part, hour) || mayDo);
    }

    int part(int man, int part, int what) {
        if (!man(man) || !four(part)) {
            return -2;
        }
        State s = now.states.get(man);
        return switch (what) {
            case 0 -> place(s, part);
            case 1 -> told.land(place(s, part));
            case 2 -> side(man, part);
            case 3 -> bound(man, s, part, now.hour) ? 1 : 0;
            case 4 -> barred(s, part) ? 1 : 0;
            case 5 -> now.seized.get(man).contains(part) ? 1 : 0;
            default -> -2;
        };
    }

    int lawful(int man, int part, int kind) {
        return !man(man) || !four(part) || !four(kind) ? -1
                : lawful(man, now.states.get(man), part, kind, now.hour) ? 1 : 0;
    }

    long law(int what, int man, int part, int kind) {
        if (what < 0 || what > 2 || !man(man) || !four(part) || what == 1 && !four(kind)) {
            return Long.MIN_VALUE;
        }
        Long value = worth(RULES.get(what), man, now.states.get(man), part, kind, now.hour);
        return value == null ? Long.MIN_VALUE : value;
    }

    int deed(int deed, int what) {
        if (deed < 0 || deed >= told.deeds.size()) {
            return -1;
        }
        Deed d = told.deeds.get(deed);
        return switch (what) {
            case 0 -> d.man();
            case 1 -> d.part();
            case 2 -> d.kind();
            case 3 -> d.hour();
            case 4 -> now.fates.get(deed);
            default -> -1;
        };
    }

    int clash() {
        for (int hour = 0; hour < 24; hour++) {
            for (int d = 0; d < told.deeds.size(); d++) {
                if (told.deeds.get(d).hour() == hour && now.fates.get(d) == 2) {
                    return d;
                }
            }
        }
        return -1;
    }

    State moved(State s, int move) {
        return switch (move) {
            case 0 -> new State(s.cell(), (s.face() + 1) % 4, s.hands(), s.feet());
            case 1 -> new State(s.cell(), (s.face() + 3) % 4, s.hands(), s.feet());
            case 2 -> new State(s.cell(), s.face(), !s.hands(), s.feet());
            case 3 -> new State(s.cell(), s.face(), s.hands(), !s.feet());
            case 4 -> s.cell() == 0 ? null : new State(s.cell() - 1, s.face(), s.hands(), s.feet());
            case 5 -> s.cell() == told.cells - 1 ? null : new State(s.cell() + 1, s.face(), s.hands(), s.feet());
            default -> null;
        };
    }

    void remember() {
        undo.add(now.copy());
        if (undo.size() > 20) {
            undo.remove(0);
        }
    }

    boolean move(int man, int move) {
        State next = man(man) ? moved(now.states.get(man), move) : null;
        if (next == null) {
            return false;
        }
        remember();
        now.states.set(man, next);
        now.moves++;
        return true;
    }

    boolean free(int man, int part) {
        if (!man(man) || !now.seized.get(man).contains(part) || now.coin.get(man) < told.fine) {
            return false;
        }
        remember();
        now.seized.get(man).remove(part);
        now.coin.set(man, now.coin.get(man) - told.fine);
        return true;
    }

    void hour(Day day) {
        for (int i = 0; i < told.deeds.size(); i++) {
            Deed d = told.deeds.get(i);
            if (d.hour() != day.hour || d.man() == idle) {
                continue;
            }
            if (otherwise != 4 && day.seized.get(d.man()).contains(d.part())) {
                day.fates.put(i, 3);
            } else if (lawful(d.man(), day.states.get(d.man()), d.part(), d.kind(), day.hour)) {
                day.fates.put(i, 1);
            } else {
                day.fates.put(i, 2);
                day.seized.get(d.man()).add(d.part());
                day.coin.set(d.man(), Math.max(0, day.coin.get(d.man()) - told.fine));
            }
        }
        for (int man = 0; man < told.men.size() && day.hour == 23; man++) {
            for (int part = 0; part < 4; part++) {
                Long tax = worth("tax", man, day.states.get(man), part, 0, day.hour);
                int due = tax == null || tax < 0 ? 0 : tax > 9 ? 9 : tax.intValue();
                day.coin.set(man, Math.max(0, day.coin.get(man) - due));
            }
        }
        day.hour++;
    }

    int go(int n) {
        if (n < 0 || n > 24 || now.hour + n > 24) {
            return -1;
        }
        for (int i = 0; i < n; i++) {
            hour(now);
            undo.clear();
        }
        return now.hour;
    }

    /** The first of the shortest rows of moves, found by writing down all rows of a length that lead to new states. */
    String row(int man, int part, int kind) {
        Map<State, String> rows = new HashMap<>();
        ArrayDeque<State> wait = new ArrayDeque<>();
        rows.put(now.states.get(man), "");
        wait.add(now.states.get(man));
        String best = null;
        while (!wait.isEmpty()) {
            State s = wait.poll();
            String row = rows.get(s);
            if (lawful(man, s, part, kind, now.hour) && (best == null || row.length() < best.length()
                    || row.length() == best.length() && row.compareTo(best) < 0)) {
                best = row;
            }
            for (int move = 0; move < 6; move++) {
                State next = moved(s, move);
                String to = row + move;
                if (next != null && !rows.containsKey(next)) {
                    wait.add(next);
                    rows.put(next, to);
                } else if (next != null && rows.get(next).length() == to.length() && to.compareTo(rows.get(next)) < 0) {
                    rows.put(next, to);
                }
            }
        }
        return best;
    }

    int fewest(int man, int part, int kind) {
        if (!man(man) || !four(part) || !four(kind)) {
            return -1;
        }
        String row = row(man, part, kind);
        return row == null ? -2 : row.length();
    }

    int way(int man, int part, int kind, int k) {
        if (!man(man) || !four(part) || !four(kind) || k < 0) {
            return -1;
        }
        String row = row(man, part, kind);
        return row == null || k >= row.length() ? -2 : row.charAt(k) - '0';
    }

    List<State> all() {
        List<State> all = new ArrayList<>();
        for (int i = 0; i < told.cells * 16; i++) {
            all.add(new State(i / 16, i / 4 % 4, i / 2 % 2 == 1, i % 2 == 1));
        }
        return all;
    }

    static int ring(int one, int other) {
        int turns = Math.abs(one - other);
        return Math.min(turns, 4 - turns);
    }

    static int apart(State a, State b) {
        return Math.abs(a.cell() - b.cell()) + ring(a.face(), b.face()) + (a.hands() == b.hands() ? 0 : 1)
                + (a.feet() == b.feet() ? 0 : 1);
    }

    int joint(int one, int part, int other, int otherPart, int kind) {
        if (!man(one) || !man(other) || one == other || !four(part) || !four(otherPart) || !four(kind)) {
            return -1;
        }
        int least = -2;
        List<State> ones = all().stream().filter(s -> lawful(one, s, part, kind, now.hour)).toList();
        List<State> others = all().stream().filter(s -> lawful(other, s, otherPart, kind, now.hour)).toList();
        for (State s : ones) {
            for (State t : others) {
                int sum = apart(now.states.get(one), s) + apart(now.states.get(other), t);
                if (Math.abs(place(s, part) - place(t, otherPart)) <= 1 && (least == -2 || sum < least)) {
                    least = sum;
                }
            }
        }
        return least;
    }

    Set<Integer> standing() {
        Set<Integer> cells = new TreeSet<>();
        for (State s : all()) {
            if (!barred(s, 0) && !barred(s, 1) && !barred(s, 2) && !barred(s, 3)) {
                cells.add(s.cell());
            }
        }
        return cells;
    }

    int stands(int man) {
        return man(man) ? bits(standing()) : -1;
    }

    boolean seat(int man, List<Integer> taken, Set<Integer> cells) {
        if (man == told.men.size()) {
            return true;
        }
        for (int cell : cells) {
            if (!taken.contains(cell)) {
                taken.add(cell);
                if (seat(man + 1, taken, cells)) {
                    return true;
                }
                taken.remove(taken.size() - 1);
            }
        }
        return false;
    }

    int match(int man) {
        List<Integer> taken = new ArrayList<>();
        return !man(man) ? -1 : seat(0, taken, standing()) ? taken.get(man) : -2;
    }

    List<State> holes(int man, int kind, int shut) {
        List<State> found = new ArrayList<>();
        for (State s : all()) {
            boolean hole = false;
            for (int part = 0; part < 4; part++) {
                int land = told.land(place(s, part));
                boolean closed = land != 9 && (shut >> land & 1) == 1;
                hole |= !closed && lawful(man, s, part, kind, now.hour)
                        && !lawful(man, told.men.get(man).first(), part, kind, now.hour);
            }
            if (hole) {
                found.add(s);
            }
        }
        return found;
    }

    int loopholes(int man, int kind) {
        return !man(man) || !four(kind) ? -1 : holes(man, kind, 0).size();
    }

    int loophole(int man, int kind, int k) {
        if (!man(man) || !four(kind) || k < 0) {
            return -1;
        }
        List<State> holes = holes(man, kind, 0);
        return k >= holes.size() ? -2 : all().indexOf(holes.get(k));
    }

    int shut(int man, int kind) {
        if (!man(man) || !four(kind)) {
            return -1;
        }
        int best = -2;
        for (int lands = (1 << told.lands.size()) - 1; lands >= 0; lands--) {
            if (holes(man, kind, lands).isEmpty()
                    && (best == -2 || Integer.bitCount(lands) <= Integer.bitCount(best))) {
                best = lands;
            }
        }
        return best;
    }

    int hits(int man, State s, State other) {
        int hits = 0;
        for (int hand = 0; hand < 2; hand++) {
            Set<Integer> places = new HashSet<>();
            for (int part = 0; part < 4; part++) {
                places.add(place(other, part));
            }
            hits += places.contains(place(s, hand)) && lawful(man, s, hand, 2, now.hour) ? 1 : 0;
        }
        return hits;
    }

    static State facing(State s, int face) {
        return new State(s.cell(), face, s.hands(), s.feet());
    }

    int has(int one, int face, int other, int otherFace) {
        State s = facing(now.states.get(one), face);
        State t = facing(now.states.get(other), otherFace);
        return hits(one, s, t) - hits(other, t, s);
    }

    List<Integer> restList(int one, int other) {
        List<Integer> found = new ArrayList<>();
        for (int f = 0; f < 4; f++) {
            for (int g = 0; g < 4; g++) {
                boolean rest = true;
                for (int h = 0; h < 4; h++) {
                    rest &= has(one, h, other, g) <= has(one, f, other, g);
                    rest &= has(other, h, one, f) <= has(other, g, one, f);
                }
                if (rest) {
                    found.add(10 * f + g);
                }
            }
        }
        return found;
    }

    int rests(int one, int other) {
        return !man(one) || !man(other) || one == other ? -1 : restList(one, other).size();
    }

    int rest(int one, int other, int k) {
        if (!man(one) || !man(other) || one == other || k < 0) {
            return -1;
        }
        List<Integer> found = restList(one, other);
        return k >= found.size() ? -2 : found.get(k);
    }

    int freed(int man) {
        if (!man(man)) {
            return -1;
        }
        int[] worth = {3, 3, 2, 2};
        int best = 0;
        int most = 0;
        for (int bits = 0; bits < 16; bits++) {
            int sum = 0;
            int price = 0;
            boolean held = true;
            for (int part = 0; part < 4; part++) {
                if ((bits >> part & 1) == 1) {
                    sum += worth[part];
                    price += told.fine;
                    held &= now.seized.get(man).contains(part);
                }
            }
            if (held && price <= now.coin.get(man) && sum > most) {
                most = sum;
                best = bits;
            }
        }
        return best;
    }

    int print(int moves, int part, int cell) {
        if (moves < 0 || moves > 99 || !four(part) || cell < 0 || cell >= told.cells || prints.size() == 24) {
            return -1;
        }
        prints.add(new Print(moves, part, cell, -1));
        return prints.size() - 1;
    }

    int strike(int print) {
        if (print < 0 || print >= prints.size() || prints.size() == 24) {
            return -1;
        }
        prints.add(new Print(0, 0, 0, print));
        return prints.size() - 1;
    }

    boolean known(int n) {
        if (n < -1 || n > prints.size()) {
            return false;
        }
        known = n;
        return true;
    }

    int reach() {
        return known == -1 ? prints.size() : known;
    }

    boolean counts(int i) {
        for (int j = i + 1; j < reach(); j++) {
            if (prints.get(j).strikes() == i && counts(j)) {
                return false;
            }
        }
        return true;
    }

    int whose() {
        List<Print> seen = new ArrayList<>();
        for (int i = 0; i < reach(); i++) {
            if (prints.get(i).strikes() == -1 && counts(i)) {
                seen.add(prints.get(i));
            }
        }
        int men = 0;
        for (int man = 0; man < told.men.size(); man++) {
            Set<State> may = new HashSet<>();
            may.add(told.men.get(man).first());
            for (int time = 0; time < 100; time++) {
                for (Print p : seen) {
                    if (p.moves() == time) {
                        may.removeIf(s -> place(s, p.part()) != p.cell());
                    }
                }
                Set<State> next = new HashSet<>(may);
                for (State s : may) {
                    for (int move = 0; move < 6; move++) {
                        if (moved(s, move) != null) {
                            next.add(moved(s, move));
                        }
                    }
                }
                may = next;
            }
            men |= may.isEmpty() ? 0 : 1 << man;
        }
        return men;
    }

    int chance(int seed, int man, int n) {
        if (seed < 0 || !man(man) || n < 0 || n > 12) {
            return -1;
        }
        BigInteger last = BigInteger.valueOf(seed);
        int days = 0;
        for (int i = 0; i < 10; i++) {
            Day day = now.copy();
            while (day.hour < 24) {
                for (int m = 0; m < told.men.size(); m++) {
                    last = last.multiply(BigInteger.valueOf(1103515245)).add(BigInteger.valueOf(12345))
                            .mod(BigInteger.TWO.pow(31));
                    State next = moved(day.states.get(m), last.shiftRight(16).intValue() % 6);
                    day.states.set(m, next == null ? day.states.get(m) : next);
                }
                hour(day);
            }
            int done = 0;
            for (int d = 0; d < told.deeds.size(); d++) {
                done += told.deeds.get(d).man() == man && day.fates.get(d) == 1 ? 1 : 0;
            }
            days += done >= n ? 1 : 0;
        }
        return days;
    }

    int tried(int what, int i) {
        if (what < 0 || what > 5 || what == 3 && !man(i) || what != 3 && i != 0) {
            return -1;
        }
        Day day = now.copy();
        otherwise = what;
        idle = what == 3 ? i : -1;
        if (what == 5) {
            day.states.replaceAll(s -> facing(s, 0));
        }
        while (day.hour < 24) {
            hour(day);
        }
        otherwise = -1;
        idle = -1;
        return (int) day.fated(1);
    }

    int undo() {
        if (undo.isEmpty()) {
            return -1;
        }
        now = undo.remove(undo.size() - 1);
        return undo.size();
    }

    int keep() {
        image = now.copy();
        return now.hour;
    }

    int back() {
        if (image == null) {
            return -1;
        }
        now = image.copy();
        undo.clear();
        return now.hour;
    }

    int count(int what) {
        return switch (what) {
            case 0 -> told.cells;
            case 1 -> told.lands.size();
            case 2 -> told.men.size();
            case 3 -> told.deeds.size();
            case 4 -> told.bars();
            case 5 -> told.knots;
            case 6 -> now.hour;
            case 7 -> (int) now.fated(1);
            case 8 -> (int) now.fated(2);
            case 9 -> (int) now.fated(3);
            case 10 -> now.coin.stream().mapToInt(c -> c).sum();
            case 11 -> prints.size();
            case 12 -> reach();
            case 13 -> undo.size();
            case 14 -> now.moves;
            default -> -1;
        };
    }
}
