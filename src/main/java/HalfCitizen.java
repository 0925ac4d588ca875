import java.util.Arrays;
import java.util.NoSuchElementException;

public final class HalfCitizen {
    public static final int NONE = -1;

    private static final int NOT_THERE = -2;
    private static final int NO_LAND = 9;
    private static final int TAPE_MOST = 700;
    private static final int CELLS_LEAST = 2;
    private static final int CELLS_MOST = 12;
    private static final int CELLS_UNTOLD = 8;
    private static final int LANDS_MOST = 5;
    private static final int MEN_MOST = 5;
    private static final int DEEDS_MOST = 12;
    private static final int BARS_MOST = 8;
    private static final int FINE_UNTOLD = 5;
    private static final int COIN_MOST = 99;
    private static final int SEED_MOST = 99999;
    private static final int PRINTS_MOST = 24;
    private static final int PRINT_MOVES_MOST = 99;
    private static final int UNDONE_MOST = 20;
    private static final int HOURS = 24;
    private static final int PARTS = 4;
    private static final int HANDS = 2;
    private static final int KINDS = 4;
    private static final int FACES = 4;
    private static final int MOVES = 6;
    private static final int HIT = 2;
    private static final int CHANCE_DAYS = 10;

    /** A STATE is CELL times 16, FACE times 4, hands times 2, feet: so many there are of a CELL. */
    private static final int STATES_OF_CELL = 16;
    private static final int STATES_MOST = CELLS_MOST * STATES_OF_CELL;

    private static final int TO_COME = 0;
    private static final int DONE = 1;
    private static final int CLASHED = 2;
    private static final int LEFT = 3;

    private static final int BIND = 0;
    private static final int MAY = 1;
    private static final int TAX = 2;
    private static final int RULES = 3;
    private static final int TAX_MOST = 9;

    private static final int NOBODY_BOUND = 0;
    private static final int NOTHING_BARRED = 1;
    private static final int OTHER_HEARTS = 2;
    private static final int ONE_IDLE = 3;
    private static final int NOTHING_SEIZED = 4;
    private static final int ALL_NORTH = 5;

    private final int[] tape = new int[TAPE_MOST];
    private int taped = 0;
    private int faultKind = 0;
    private int faultPlace = NONE;
    private Told told = new Told();
    private final Reader reader = new Reader(tape);
    private final Rules rules = new Rules(told);
    private final Day now = new Day();
    private final Day image = new Day();
    private final Day trial = new Day();
    private boolean imageKept = false;
    private final Undone undone = new Undone();
    private final Prints prints = new Prints();
    private final Walks walks = new Walks();
    private final Duel duel = new Duel();

    public HalfCitizen() {
    }

    public int feed(int a, int b, int c, int d, int e) {
        if (taped + 20 > TAPE_MOST) {
            return NONE;
        }
        putBytes(a);
        putBytes(b);
        putBytes(c);
        putBytes(d);
        putBytes(e);
        return taped;
    }

    public int text(int n) {
        if (n < 0 || n > taped) {
            return NOT_THERE;
        }
        taped = 0;
        int lines = reader.readTape(n);
        faultKind = reader.tokens.faultKind;
        faultPlace = reader.tokens.faultPlace;
        if (lines != NONE) {
            takeDraft();
        }
        return lines;
    }

    public int fault(int what) {
        switch (what) {
            case 0: return faultKind;
            case 1: return faultPlace;
            default: return NONE;
        }
    }

    public int named(int what, int letters) {
        switch (what) {
            case 0: return told.landNamed(letters);
            case 1: return told.manNamed(letters);
            default: return NONE;
        }
    }

    public int look(int man, int what) throws IndexOutOfBoundsException, NoSuchElementException {
        if (!isMan(man)) {
            throw new IndexOutOfBoundsException("no such man");
        }
        int state = now.states[man];
        switch (what) {
            case 0: return Rules.cellOf(state);
            case 1: return Rules.faceOf(state);
            case 2: return Rules.handsOf(state);
            case 3: return Rules.feetOf(state);
            case 4: return now.coin[man];
            case 5: return told.heart[man];
            case 6: return now.seized[man];
            default: throw new NoSuchElementException("no such what");
        }
    }

    public int land(int cell) {
        if (!isCell(cell)) {
            return NONE;
        }
        int found = rules.landAt(cell);
        return found == NO_LAND ? NOT_THERE : found;
    }

    public int part(int man, int part, int what) {
        if (!isMan(man) || !isPart(part)) {
            return NOT_THERE;
        }
        int state = now.states[man];
        switch (what) {
            case 0: return Rules.placeOf(state, part);
            case 1: return rules.landAt(Rules.placeOf(state, part));
            case 2: return rules.sideOf(man, part);
            case 3: return rules.binds(man, state, part, now.hour) ? 1 : 0;
            case 4: return rules.bars(state, part) ? 1 : 0;
            case 5: return now.isSeized(man, part) ? 1 : 0;
            default: return NOT_THERE;
        }
    }

    public int lawful(int man, int part, int kind) {
        if (!isMan(man) || !isPart(part) || !isKind(kind)) {
            return NONE;
        }
        return rules.allows(man, now.states[man], part, kind, now.hour) ? 1 : 0;
    }

    public long law(int what, int man, int part, int kind) {
        if (what < 0 || what >= RULES || !isMan(man) || !isPart(part)) {
            return Laws.ERROR;
        }
        if (what == MAY && !isKind(kind)) {
            return Laws.ERROR;
        }
        return rules.worth(what, man, now.states[man], part, what == MAY ? kind : 0, now.hour);
    }

    public int deed(int deed, int what) {
        if (deed < 0 || deed >= told.deeds) {
            return NONE;
        }
        switch (what) {
            case 0: return told.deedMan[deed];
            case 1: return told.deedPart[deed];
            case 2: return told.deedKind[deed];
            case 3: return told.deedHour[deed];
            case 4: return now.fates[deed];
            default: return NONE;
        }
    }

    public int clash() {
        int first = NONE;
        int firstHour = HOURS;
        for (int d = 0; d < told.deeds; d++) {
            if (now.fates[d] == CLASHED && told.deedHour[d] < firstHour) {
                first = d;
                firstHour = told.deedHour[d];
            }
        }
        return first;
    }

    public boolean move(int man, int move) {
        if (!isMan(man)) {
            return false;
        }
        int next = Rules.movedBy(now.states[man], move, told.cells);
        if (next == NONE) {
            return false;
        }
        undone.remember(now, man);
        now.states[man] = next;
        now.moves++;
        return true;
    }

    public boolean free(int man, int part) {
        if (!isMan(man) || !isPart(part)) {
            return false;
        }
        if (!now.isSeized(man, part) || now.coin[man] < told.fine) {
            return false;
        }
        undone.remember(now, man);
        now.seized[man] &= ~(1 << part);
        now.coin[man] -= told.fine;
        return true;
    }

    public int go(int n) {
        if (n < 0 || n > HOURS - now.hour) {
            return NONE;
        }
        if (n > 0) {
            undone.forget();
        }
        for (int i = 0; i < n; i++) {
            rules.passHour(now);
        }
        return now.hour;
    }

    public int fewest(int man, int part, int kind) {
        if (!isMan(man) || !isPart(part) || !isKind(kind)) {
            return NONE;
        }
        int target = nearestLawful(man, part, kind);
        return target == NONE ? NOT_THERE : walks.far[target];
    }

    public int way(int man, int part, int kind, int k) {
        if (!isMan(man) || !isPart(part) || !isKind(kind) || k < 0) {
            return NONE;
        }
        int target = nearestLawful(man, part, kind);
        if (target == NONE || k >= walks.far[target]) {
            return NOT_THERE;
        }
        return walks.moveTo(target, k);
    }

    public int joint(int one, int part, int other, int otherPart, int kind) {
        if (!isMan(one) || !isPart(part) || !isMan(other) || !isPart(otherPart) || !isKind(kind) || one == other) {
            return NONE;
        }
        measurePlaces(one, part, kind, walks.onePlaces);
        measurePlaces(other, otherPart, kind, walks.otherPlaces);
        return walks.leastSum(told.cells);
    }

    public int stands(int man) {
        return isMan(man) ? rules.standing() : NONE;
    }

    public int match(int man) {
        if (!isMan(man)) {
            return NONE;
        }
        // Whether a PART is BARRED doesn't hang on whose it is: all MEN stand in the same CELLS.
        int cells = rules.standing();
        if (Integer.bitCount(cells) < told.men) {
            return NOT_THERE;
        }
        for (int i = 0; i < man; i++) {
            cells &= cells - 1;
        }
        return Integer.numberOfTrailingZeros(cells);
    }

    public int loopholes(int man, int kind) {
        if (!isMan(man) || !isKind(kind)) {
            return NONE;
        }
        int closed = closedParts(man, kind);
        int found = 0;
        for (int state = 0; state < told.states(); state++) {
            if ((rules.lawfulParts(man, state, kind, now.hour) & closed) != 0) {
                found++;
            }
        }
        return found;
    }

    public int loophole(int man, int kind, int k) {
        if (!isMan(man) || !isKind(kind) || k < 0) {
            return NONE;
        }
        int closed = closedParts(man, kind);
        int left = k;
        for (int state = 0; state < told.states(); state++) {
            if ((rules.lawfulParts(man, state, kind, now.hour) & closed) != 0) {
                if (left == 0) {
                    return state;
                }
                left--;
            }
        }
        return NOT_THERE;
    }

    public int shut(int man, int kind) {
        if (!isMan(man) || !isKind(kind)) {
            return NONE;
        }
        // Each LAND in which a loophole's PART lies must be among them, and no other need be.
        int closed = closedParts(man, kind);
        int lands = 0;
        for (int state = 0; state < told.states(); state++) {
            lands |= rules.landsOf(state, rules.lawfulParts(man, state, kind, now.hour) & closed);
        }
        return (lands >> NO_LAND & 1) != 0 ? NOT_THERE : lands;
    }

    public int rests(int one, int other) {
        if (!isMan(one) || !isMan(other) || one == other) {
            return NONE;
        }
        duel.weigh(rules, now, one, other);
        int found = 0;
        for (int pair = 0; pair < FACES * FACES; pair++) {
            if (duel.isRest(pair)) {
                found++;
            }
        }
        return found;
    }

    public int rest(int one, int other, int k) {
        if (!isMan(one) || !isMan(other) || one == other || k < 0) {
            return NONE;
        }
        duel.weigh(rules, now, one, other);
        int left = k;
        for (int pair = 0; pair < FACES * FACES; pair++) {
            if (duel.isRest(pair)) {
                if (left == 0) {
                    return pair / FACES * 10 + pair % FACES;
                }
                left--;
            }
        }
        return NOT_THERE;
    }

    public int freed(int man) {
        if (!isMan(man)) {
            return NONE;
        }
        int best = 0;
        int bestWorth = 0;
        for (int parts = 1; parts < 1 << PARTS; parts++) {
            boolean held = (parts & ~now.seized[man]) == 0;
            int worth = Integer.bitCount(parts & 3) * 3 + Integer.bitCount(parts >> HANDS) * 2;
            if (held && Integer.bitCount(parts) * told.fine <= now.coin[man] && worth > bestWorth) {
                best = parts;
                bestWorth = worth;
            }
        }
        return best;
    }

    public int print(int moves, int part, int cell) {
        if (moves < 0 || moves > PRINT_MOVES_MOST || !isPart(part) || !isCell(cell)) {
            return NONE;
        }
        return prints.add(moves, part, cell, NONE);
    }

    public int strike(int print) {
        if (print < 0 || print >= prints.size) {
            return NONE;
        }
        return prints.add(0, 0, 0, print);
    }

    public boolean known(int n) {
        if (n < NONE || n > prints.size) {
            return false;
        }
        prints.limit = n;
        return true;
    }

    public int whose() {
        prints.weigh();
        int men = 0;
        for (int man = 0; man < told.men; man++) {
            if (prints.fit(told.firstState[man], told.cells)) {
                men |= 1 << man;
            }
        }
        return men;
    }

    public int chance(int seed, int man, int n) {
        if (seed < 0 || !isMan(man) || n < 0 || n > DEEDS_MOST) {
            return NONE;
        }
        int days = 0;
        long last = seed;
        for (int i = 0; i < CHANCE_DAYS; i++) {
            trial.copyFrom(now);
            last = rules.passByChance(trial, last);
            if (doneBy(trial, man) >= n) {
                days++;
            }
        }
        return days;
    }

    public int tried(int what, int i) {
        if (what < NOBODY_BOUND || what > ALL_NORTH || (what == ONE_IDLE ? !isMan(i) : i != 0)) {
            return NONE;
        }
        trial.copyFrom(now);
        if (what == NOTHING_SEIZED) {
            Arrays.fill(trial.seized, 0);
        }
        if (what == ALL_NORTH) {
            trial.turnNorth();
        }
        rules.otherwise = what;
        rules.idle = what == ONE_IDLE ? i : NONE;
        for (int hour = now.hour; hour < HOURS; hour++) {
            rules.passHour(trial);
        }
        rules.otherwise = NONE;
        rules.idle = NONE;
        return trial.fated(DONE, told.deeds);
    }

    public int undo() {
        return undone.takeBack(now);
    }

    public int keep() {
        image.copyFrom(now);
        imageKept = true;
        return now.hour;
    }

    public int back() {
        if (!imageKept) {
            return NONE;
        }
        now.copyFrom(image);
        undone.forget();
        return now.hour;
    }

    public int count(int what) {
        switch (what) {
            case 0: return told.cells;
            case 1: return told.lands;
            case 2: return told.men;
            case 3: return told.deeds;
            case 4: return told.bars;
            case 5: return told.laws.knots;
            case 6: return now.hour;
            case 7: return now.fated(DONE, told.deeds);
            case 8: return now.fated(CLASHED, told.deeds);
            case 9: return now.fated(LEFT, told.deeds);
            case 10: return now.allCoin(told.men);
            case 11: return prints.size;
            case 12: return prints.reach();
            case 13: return undone.size;
            case 14: return now.moves;
            default: return NONE;
        }
    }

    private void putBytes(int four) {
        for (int shift = 24; shift >= 0; shift -= 8) {
            if (taped < TAPE_MOST) {
                tape[taped] = four >>> shift & 255;
                taped++;
            }
        }
    }

    private void takeDraft() {
        Told fresh = reader.draft;
        reader.draft = told;
        told = fresh;
        rules.told = fresh;
        now.begin(fresh);
        imageKept = false;
        undone.forget();
        prints.forget();
    }

    private boolean isMan(int man) {
        return man >= 0 && man < told.men;
    }

    private boolean isCell(int cell) {
        return cell >= 0 && cell < told.cells;
    }

    private static boolean isPart(int part) {
        return part >= 0 && part < PARTS;
    }

    private static boolean isKind(int kind) {
        return kind >= 0 && kind < KINDS;
    }

    /** The STATE that the FEWEST MOVES lead to, with the walks to it; NONE if there is none. */
    private int nearestLawful(int man, int part, int kind) {
        walks.explore(now.states[man], told.cells);
        for (int i = 0; i < walks.size; i++) {
            int state = walks.queue[i];
            if (rules.allows(man, state, part, kind, now.hour)) {
                return state;
            }
        }
        return NONE;
    }

    /** How few MOVES bring a PART lawfully to each PLACE; the row begins with PLACE -1. */
    private void measurePlaces(int man, int part, int kind, int[] places) {
        Arrays.fill(places, NONE);
        walks.explore(now.states[man], told.cells);
        for (int i = 0; i < walks.size; i++) {
            int state = walks.queue[i];
            int row = Rules.placeOf(state, part) + 1;
            boolean inside = row >= 0 && row < places.length;
            if (inside && places[row] == NONE && rules.allows(man, state, part, kind, now.hour)) {
                places[row] = walks.far[state];
            }
        }
    }

    private int closedParts(int man, int kind) {
        return ~rules.lawfulParts(man, told.firstState[man], kind, now.hour) & (1 << PARTS) - 1;
    }

    private int doneBy(Day day, int man) {
        int done = 0;
        for (int d = 0; d < told.deeds; d++) {
            if (told.deedMan[d] == man && day.fates[d] == DONE) {
                done++;
            }
        }
        return done;
    }

    /** Cuts the TAPE into TOKENS, one at a time, and holds the first FAULT. */
    private static final class Tokens {
        static final int END = 0;
        static final int WORD = 1;
        static final int NUMBER = 2;
        static final int SIGN = 3;
        static final int BAD = 4;

        static final int CANNOT_STAND = 1;
        static final int TOO_MUCH = 2;
        static final int TOLD_ALREADY = 3;
        static final int NOT_TOLD = 4;

        static final int STREET = 0;
        static final int LAND = 1;
        static final int MAN = 2;
        static final int DEED = 3;
        static final int BAR = 4;
        static final int FINE = 5;
        static final int SEED = 6;
        static final int LAW = 7;
        static final int NORTH = 8;
        static final int LEFT_SIDE = 12;
        static final int LHAND = 14;
        static final int HOLD = 18;
        static final int BIND_WORD = 22;
        static final int OR_WORD = 25;
        static final int AND_WORD = 26;
        static final int NOT_WORD = 27;
        static final int PART_NAME = 28;
        static final int CROSS_NAME = 32;
        static final int HOUR_NAME = 33;
        static final int WORDS = 34;
        /** A word's number is its place in this row. */
        static final String LANGUAGE = "street land man deed bar fine seed law north east south west left right lhand rhand lfoot rfoot hold sign hit pass bind may tax or and not part side where face cross hour ";

        static final int SAME = '=';
        static final int LESS = '<';
        static final int MORE = '>';
        static final int AT_MOST = '<' * 256 + '=';
        static final int AT_LEAST = '>' * 256 + '=';
        static final int UNLIKE = '<' * 256 + '>';

        static final int LETTERS_MOST = 6;
        /** Above every number that a TEXT may hold, and far below what an int holds. */
        static final int NUMBER_CAP = 1000000;

        final int[] tape;
        final int[] language = new int[WORDS];
        int length = 0;
        int next = 0;
        int kind = END;
        int place = 0;
        /** Of a number its value, of a sign its mark, of a word its number in the language or NONE. */
        int value = 0;
        int letters = 0;
        int faultKind = 0;
        int faultPlace = NONE;

        Tokens(int[] tape) {
            this.tape = tape;
            int word = 0;
            int size = 0;
            for (int i = 0; i < LANGUAGE.length() && word < WORDS; i++) {
                char c = LANGUAGE.charAt(i);
                if (c == ' ') {
                    word++;
                    size = 0;
                } else {
                    language[word] |= letterBits(c, size);
                    size++;
                }
            }
        }

        private static int letterBits(int letter, int index) {
            return letter - 'a' + 1 << 5 * (LETTERS_MOST - 1 - index);
        }

        void begin(int bytes) {
            length = Math.min(bytes, tape.length);
            next = 0;
            faultKind = 0;
            faultPlace = NONE;
            advance();
        }

        /** Tells a FAULT at the TOKEN at hand; false, for the callers to hand on. */
        boolean refuse(int fault) {
            faultKind = fault;
            faultPlace = place;
            return false;
        }

        boolean isWord(int word) {
            return kind == WORD && value == word;
        }

        boolean isSign(int mark) {
            return kind == SIGN && value == mark;
        }

        void advance() {
            while (next < length && (tape[next] == 10 || tape[next] == 32)) {
                next++;
            }
            place = next;
            value = 0;
            letters = 0;
            if (next >= length) {
                kind = END;
            } else if (isLetter(tape[next])) {
                takeWord();
            } else if (isDigit(tape[next])) {
                takeNumber();
            } else {
                takeSign();
            }
        }

        private static boolean isLetter(int c) {
            return c >= 'a' && c <= 'z';
        }

        private static boolean isDigit(int c) {
            return c >= '0' && c <= '9';
        }

        private void takeWord() {
            int size = 0;
            while (next < length && isLetter(tape[next])) {
                if (size < LETTERS_MOST) {
                    letters |= letterBits(tape[next], size);
                }
                size++;
                next++;
            }
            kind = size > LETTERS_MOST ? BAD : WORD;
            value = NONE;
            for (int word = 0; word < WORDS && kind == WORD; word++) {
                if (language[word] == letters) {
                    value = word;
                }
            }
        }

        private void takeNumber() {
            kind = NUMBER;
            while (next < length && isDigit(tape[next])) {
                value = Math.min(value * 10 + tape[next] - '0', NUMBER_CAP);
                next++;
            }
        }

        private void takeSign() {
            kind = SIGN;
            value = tape[next];
            next++;
            switch (value) {
                case ';': case '(': case ')': case '+': case '-': case '*': case '/': case SAME:
                    break;
                case LESS: case MORE:
                    takeSecondMark();
                    break;
                default:
                    kind = BAD;
            }
        }

        private void takeSecondMark() {
            if (next < length && (tape[next] == SAME || value == LESS && tape[next] == MORE)) {
                value = value * 256 + tape[next];
                next++;
            }
        }
    }

    /** Reads a TEXT, LINE by LINE, into a draft. */
    private static final class Reader {
        final Tokens tokens;
        final Sentences sentences;
        Told draft = new Told();
        private boolean streetTold = false;
        private boolean fineTold = false;
        private boolean seedTold = false;

        Reader(int[] tape) {
            tokens = new Tokens(tape);
            sentences = new Sentences(tokens, draft.laws);
        }

        /** How many LINES the first bytes of the TAPE tell; NONE with a FAULT. */
        int readTape(int bytes) {
            draft.clear();
            streetTold = false;
            fineTold = false;
            seedTold = false;
            tokens.begin(bytes);
            int lines = 0;
            while (lines <= bytes && tokens.kind != Tokens.END) {
                if (!readLine()) {
                    return NONE;
                }
                lines++;
            }
            return lines;
        }

        private boolean readLine() {
            boolean read;
            switch (tokens.kind == Tokens.WORD ? tokens.value : NONE) {
                case Tokens.STREET: read = readStreet(); break;
                case Tokens.LAND: read = readLand(); break;
                case Tokens.MAN: read = readMan(); break;
                case Tokens.DEED: read = readDeed(); break;
                case Tokens.BAR: read = readBar(); break;
                case Tokens.FINE: read = readFine(); break;
                case Tokens.SEED: read = readSeed(); break;
                case Tokens.LAW: read = readLaw(); break;
                default: read = tokens.refuse(Tokens.CANNOT_STAND);
            }
            if (!read) {
                return false;
            }
            if (!tokens.isSign(';')) {
                return tokens.refuse(Tokens.CANNOT_STAND);
            }
            tokens.advance();
            return true;
        }

        private boolean readStreet() {
            if (streetTold) {
                return tokens.refuse(Tokens.TOLD_ALREADY);
            }
            if (draft.lands > 0 || draft.men > 0) {
                return tokens.refuse(Tokens.NOT_TOLD);
            }
            streetTold = true;
            tokens.advance();
            int cells = takeNumber(CELLS_LEAST, CELLS_MOST);
            if (cells == NONE) {
                return false;
            }
            draft.cells = cells;
            return true;
        }

        private boolean readLand() {
            if (draft.lands >= LANDS_MOST) {
                return tokens.refuse(Tokens.TOO_MUCH);
            }
            tokens.advance();
            int name = takeName();
            if (name == NONE) {
                return false;
            }
            if (draft.landNamed(name) != NONE) {
                return tokens.refuse(Tokens.TOLD_ALREADY);
            }
            tokens.advance();
            int from = takeNumber(0, draft.cells - 1);
            int to = from == NONE ? NONE : takeNumber(from, draft.cells - 1);
            if (to == NONE) {
                return false;
            }
            draft.addLand(name, from, to);
            return true;
        }

        private boolean readMan() {
            if (draft.men >= MEN_MOST) {
                return tokens.refuse(Tokens.TOO_MUCH);
            }
            tokens.advance();
            int name = takeName();
            if (name == NONE) {
                return false;
            }
            if (draft.manNamed(name) != NONE) {
                return tokens.refuse(Tokens.TOLD_ALREADY);
            }
            tokens.advance();
            int cell = takeNumber(0, draft.cells - 1);
            int face = cell == NONE ? NONE : takeChoice(Tokens.NORTH, FACES);
            int heart = face == NONE ? NONE : takeChoice(Tokens.LEFT_SIDE, 2);
            int coin = heart == NONE ? NONE : takeNumber(0, COIN_MOST);
            if (coin == NONE) {
                return false;
            }
            draft.addMan(name, cell * STATES_OF_CELL + face * 4, heart, coin);
            return true;
        }

        private boolean readDeed() {
            if (draft.deeds >= DEEDS_MOST) {
                return tokens.refuse(Tokens.TOO_MUCH);
            }
            tokens.advance();
            int name = takeName();
            if (name == NONE) {
                return false;
            }
            int man = draft.manNamed(name);
            if (man == NONE) {
                return tokens.refuse(Tokens.NOT_TOLD);
            }
            tokens.advance();
            int part = takeChoice(Tokens.LHAND, PARTS);
            int kind = part == NONE ? NONE : takeChoice(Tokens.HOLD, KINDS);
            int hour = kind == NONE ? NONE : takeNumber(0, HOURS - 1);
            if (hour == NONE) {
                return false;
            }
            draft.addDeed(man, part, kind, hour);
            return true;
        }

        private boolean readBar() {
            if (draft.bars >= BARS_MOST) {
                return tokens.refuse(Tokens.TOO_MUCH);
            }
            tokens.advance();
            int name = takeName();
            if (name == NONE) {
                return false;
            }
            int land = draft.landNamed(name);
            if (land == NONE) {
                return tokens.refuse(Tokens.NOT_TOLD);
            }
            tokens.advance();
            int part = choiceAtHand(Tokens.LHAND, PARTS);
            if (part == NONE) {
                return false;
            }
            if ((draft.barred[land] >> part & 1) != 0) {
                return tokens.refuse(Tokens.TOLD_ALREADY);
            }
            tokens.advance();
            draft.barred[land] |= 1 << part;
            draft.bars++;
            return true;
        }

        private boolean readFine() {
            if (fineTold) {
                return tokens.refuse(Tokens.TOLD_ALREADY);
            }
            fineTold = true;
            tokens.advance();
            int fine = takeNumber(0, COIN_MOST);
            if (fine == NONE) {
                return false;
            }
            draft.fine = fine;
            return true;
        }

        /** No promise asks for the seed of a TEXT: it is looked at and not kept. */
        private boolean readSeed() {
            if (seedTold) {
                return tokens.refuse(Tokens.TOLD_ALREADY);
            }
            seedTold = true;
            tokens.advance();
            return takeNumber(0, SEED_MOST) != NONE;
        }

        private boolean readLaw() {
            tokens.advance();
            int rule = choiceAtHand(Tokens.BIND_WORD, RULES);
            if (rule == NONE) {
                return false;
            }
            if (draft.laws.isTold(rule)) {
                return tokens.refuse(Tokens.TOLD_ALREADY);
            }
            tokens.advance();
            sentences.laws = draft.laws;
            draft.laws.begin(rule);
            if (!sentences.readEither(0)) {
                return false;
            }
            draft.laws.end(rule);
            return true;
        }

        /** The letters of the W at hand, which stays at hand, for a FAULT there; NONE if it is none. */
        private int takeName() {
            if (tokens.kind == Tokens.WORD && tokens.value == NONE) {
                return tokens.letters;
            }
            tokens.refuse(Tokens.CANNOT_STAND);
            return NONE;
        }

        private int takeNumber(int least, int most) {
            if (tokens.kind != Tokens.NUMBER) {
                tokens.refuse(Tokens.CANNOT_STAND);
                return NONE;
            }
            int number = tokens.value;
            if (number < least || number > most) {
                tokens.refuse(Tokens.TOO_MUCH);
                return NONE;
            }
            tokens.advance();
            return number;
        }

        private int takeChoice(int first, int many) {
            int choice = choiceAtHand(first, many);
            if (choice != NONE) {
                tokens.advance();
            }
            return choice;
        }

        private int choiceAtHand(int first, int many) {
            int choice = tokens.value - first;
            if (tokens.kind != Tokens.WORD || choice < 0 || choice >= many) {
                tokens.refuse(Tokens.CANNOT_STAND);
                return NONE;
            }
            return choice;
        }
    }

    /** Reads an E; its KNOTS go into the laws behind what they join. */
    private static final class Sentences {
        private static final int OPEN_MOST = 8;
        private static final int NUMBER_MOST = 9999;

        private final Tokens tokens;
        Laws laws;

        Sentences(Tokens tokens, Laws laws) {
            this.tokens = tokens;
            this.laws = laws;
        }

        /** An E, with so many '(' open around it. */
        private boolean readEither(int open) {
            if (!readBoth(open)) {
                return false;
            }
            for (int i = 0; i <= Laws.KNOTS_MOST && tokens.isWord(Tokens.OR_WORD); i++) {
                if (!takeKnot() || !readBoth(open)) {
                    return false;
                }
                laws.put(Laws.OR, 0);
            }
            return true;
        }

        private boolean readBoth(int open) {
            if (!readDenied(open)) {
                return false;
            }
            for (int i = 0; i <= Laws.KNOTS_MOST && tokens.isWord(Tokens.AND_WORD); i++) {
                if (!takeKnot() || !readDenied(open)) {
                    return false;
                }
                laws.put(Laws.AND, 0);
            }
            return true;
        }

        private boolean readDenied(int open) {
            int denials = 0;
            for (int i = 0; i <= Laws.KNOTS_MOST && tokens.isWord(Tokens.NOT_WORD); i++) {
                if (!takeKnot()) {
                    return false;
                }
                denials++;
            }
            if (!readCompared(open)) {
                return false;
            }
            for (int i = 0; i < denials; i++) {
                laws.put(Laws.NOT, 0);
            }
            return true;
        }

        private boolean readCompared(int open) {
            if (!readSum(open)) {
                return false;
            }
            int mark = tokens.value;
            if (tokens.kind != Tokens.SIGN || !isComparison(mark)) {
                return true;
            }
            if (!takeKnot() || !readSum(open)) {
                return false;
            }
            laws.put(mark, 0);
            return true;
        }

        private static boolean isComparison(int mark) {
            switch (mark) {
                case Tokens.LESS: case Tokens.AT_MOST: case Tokens.SAME:
                case Tokens.UNLIKE: case Tokens.AT_LEAST: case Tokens.MORE:
                    return true;
                default:
                    return false;
            }
        }

        private boolean readSum(int open) {
            if (!readProduct(open)) {
                return false;
            }
            for (int i = 0; i <= Laws.KNOTS_MOST && (tokens.isSign('+') || tokens.isSign('-')); i++) {
                int mark = tokens.value;
                if (!takeKnot() || !readProduct(open)) {
                    return false;
                }
                laws.put(mark, 0);
            }
            return true;
        }

        private boolean readProduct(int open) {
            if (!readPlain(open)) {
                return false;
            }
            for (int i = 0; i <= Laws.KNOTS_MOST && (tokens.isSign('*') || tokens.isSign('/')); i++) {
                int mark = tokens.value;
                if (!takeKnot() || !readPlain(open)) {
                    return false;
                }
                laws.put(mark, 0);
            }
            return true;
        }

        private boolean readPlain(int open) {
            if (tokens.isSign('(')) {
                return readInner(open);
            }
            int value = tokens.value;
            int op = Laws.NUMBER;
            if (tokens.kind == Tokens.WORD) {
                op = Laws.NAME;
                value = nameAtHand();
            }
            boolean stands = tokens.kind == Tokens.NUMBER || op == Laws.NAME && value != NONE;
            if (!stands) {
                return tokens.refuse(Tokens.CANNOT_STAND);
            }
            if (op == Laws.NUMBER && value > NUMBER_MOST) {
                return tokens.refuse(Tokens.TOO_MUCH);
            }
            if (!takeKnot()) {
                return false;
            }
            laws.put(op, value);
            return true;
        }

        private boolean readInner(int open) {
            if (open >= OPEN_MOST) {
                return tokens.refuse(Tokens.TOO_MUCH);
            }
            tokens.advance();
            if (!readEither(open + 1)) {
                return false;
            }
            if (!tokens.isSign(')')) {
                return tokens.refuse(Tokens.CANNOT_STAND);
            }
            tokens.advance();
            return true;
        }

        private int nameAtHand() {
            int word = tokens.value;
            if (word >= Tokens.PART_NAME && word <= Tokens.CROSS_NAME) {
                return word - Tokens.PART_NAME;
            }
            if (word == Tokens.DEED) {
                return Laws.DEED_NAME;
            }
            return word == Tokens.HOUR_NAME ? Laws.HOUR_NAME : NONE;
        }

        private boolean takeKnot() {
            if (laws.knots >= Laws.KNOTS_MOST) {
                return tokens.refuse(Tokens.TOO_MUCH);
            }
            laws.knots++;
            tokens.advance();
            return true;
        }
    }

    /** The laws of a TEXT: one row of KNOTS for all E, each behind what it joins. */
    private static final class Laws {
        static final long ERROR = Long.MIN_VALUE;
        static final long VALUE_MOST = 1000000000000L;
        static final int KNOTS_MOST = 64;

        /** Below every mark of a sign. */
        static final int NUMBER = 0;
        static final int NAME = 1;
        static final int OR = 2;
        static final int AND = 3;
        static final int NOT = 4;

        static final int PART_NAME = 0;
        static final int SIDE_NAME = 1;
        static final int WHERE_NAME = 2;
        static final int FACE_NAME = 3;
        static final int CROSS_NAME = 4;
        static final int DEED_NAME = 5;
        static final int HOUR_NAME = 6;
        static final int NAMES = 7;

        int knots = 0;
        private int size = 0;
        private final int[] ops = new int[KNOTS_MOST];
        private final int[] values = new int[KNOTS_MOST];
        private final int[] from = {NONE, NONE, NONE};
        private final int[] to = new int[RULES];
        private final long[] stack = new long[KNOTS_MOST];
        /** What the NAMES mean, for the next E that is worked out. */
        final int[] names = new int[NAMES];

        void clear() {
            knots = 0;
            size = 0;
            Arrays.fill(from, NONE);
        }

        boolean isTold(int rule) {
            return from[rule] != NONE;
        }

        void begin(int rule) {
            from[rule] = size;
        }

        void end(int rule) {
            to[rule] = size;
        }

        void put(int op, int value) {
            if (size < KNOTS_MOST) {
                ops[size] = op;
                values[size] = value;
                size++;
            }
        }

        /** What the E of a law is; ERROR also if there is no such law. */
        long workOut(int rule) {
            if (!isTold(rule)) {
                return ERROR;
            }
            int top = 0;
            for (int i = from[rule]; i < to[rule]; i++) {
                int op = ops[i];
                if (op == NUMBER || op == NAME) {
                    if (top >= KNOTS_MOST) {
                        return ERROR;
                    }
                    stack[top] = op == NUMBER ? values[i] : names[values[i]];
                    top++;
                } else if (op == NOT) {
                    if (top < 1) {
                        return ERROR;
                    }
                    stack[top - 1] = stack[top - 1] == 0 ? 1 : 0;
                } else {
                    if (top < 2) {
                        return ERROR;
                    }
                    top--;
                    long joined = join(op, stack[top - 1], stack[top]);
                    if (joined > VALUE_MOST || joined < -VALUE_MOST) {
                        return ERROR;
                    }
                    stack[top - 1] = joined;
                }
            }
            return top == 1 ? stack[0] : ERROR;
        }

        private static long join(int op, long a, long b) {
            switch (op) {
                case OR: return a != 0 || b != 0 ? 1 : 0;
                case AND: return a != 0 && b != 0 ? 1 : 0;
                case Tokens.LESS: return a < b ? 1 : 0;
                case Tokens.AT_MOST: return a <= b ? 1 : 0;
                case Tokens.SAME: return a == b ? 1 : 0;
                case Tokens.UNLIKE: return a != b ? 1 : 0;
                case Tokens.AT_LEAST: return a >= b ? 1 : 0;
                case Tokens.MORE: return a > b ? 1 : 0;
                case '+': return a + b;
                case '-': return a - b;
                // Asked by a division, as the product of two values may be more than a long holds.
                case '*': return b != 0 && (a < 0 ? -a : a) > VALUE_MOST / (b < 0 ? -b : b) ? ERROR : a * b;
                case '/': return b == 0 ? ERROR : a / b;
                default: return ERROR;
            }
        }
    }

    /** What a TEXT tells. */
    private static final class Told {
        int cells = CELLS_UNTOLD;
        int lands = 0;
        final int[] landNames = new int[LANDS_MOST];
        /** Of each CELL its LAND. */
        final int[] landOf = new int[CELLS_MOST];
        /** Of each LAND the PARTS that it bars (bits). */
        final int[] barred = new int[LANDS_MOST];
        int bars = 0;
        int men = 0;
        final int[] manNames = new int[MEN_MOST];
        final int[] firstState = new int[MEN_MOST];
        final int[] heart = new int[MEN_MOST];
        final int[] firstCoin = new int[MEN_MOST];
        int deeds = 0;
        final int[] deedMan = new int[DEEDS_MOST];
        final int[] deedPart = new int[DEEDS_MOST];
        final int[] deedKind = new int[DEEDS_MOST];
        final int[] deedHour = new int[DEEDS_MOST];
        int fine = FINE_UNTOLD;
        final Laws laws = new Laws();

        Told() {
            Arrays.fill(landOf, NO_LAND);
        }

        void clear() {
            cells = CELLS_UNTOLD;
            lands = 0;
            bars = 0;
            men = 0;
            deeds = 0;
            fine = FINE_UNTOLD;
            Arrays.fill(landOf, NO_LAND);
            Arrays.fill(barred, 0);
            laws.clear();
        }

        int states() {
            return cells * STATES_OF_CELL;
        }

        void addLand(int name, int first, int last) {
            if (lands >= LANDS_MOST) {
                return;
            }
            landNames[lands] = name;
            for (int cell = Math.max(first, 0); cell <= last && cell < CELLS_MOST; cell++) {
                landOf[cell] = lands;
            }
            lands++;
        }

        void addMan(int name, int state, int side, int coin) {
            if (men >= MEN_MOST) {
                return;
            }
            manNames[men] = name;
            firstState[men] = state;
            heart[men] = side;
            firstCoin[men] = coin;
            men++;
        }

        void addDeed(int man, int part, int kind, int hour) {
            if (deeds >= DEEDS_MOST) {
                return;
            }
            deedMan[deeds] = man;
            deedPart[deeds] = part;
            deedKind[deeds] = kind;
            deedHour[deeds] = hour;
            deeds++;
        }

        int landNamed(int letters) {
            return indexOf(landNames, lands, letters);
        }

        int manNamed(int letters) {
            return indexOf(manNames, men, letters);
        }

        private static int indexOf(int[] row, int size, int letters) {
            for (int i = 0; i < size && i < row.length; i++) {
                if (row[i] == letters) {
                    return i;
                }
            }
            return NONE;
        }
    }

    /** How things are at some HOUR of a DAY. */
    private static final class Day {
        int hour = 0;
        int moves = 0;
        final int[] states = new int[MEN_MOST];
        final int[] coin = new int[MEN_MOST];
        final int[] seized = new int[MEN_MOST];
        final int[] fates = new int[DEEDS_MOST];

        void begin(Told told) {
            hour = 0;
            moves = 0;
            System.arraycopy(told.firstState, 0, states, 0, MEN_MOST);
            System.arraycopy(told.firstCoin, 0, coin, 0, MEN_MOST);
            Arrays.fill(seized, 0);
            Arrays.fill(fates, TO_COME);
        }

        void copyFrom(Day other) {
            hour = other.hour;
            moves = other.moves;
            System.arraycopy(other.states, 0, states, 0, MEN_MOST);
            System.arraycopy(other.coin, 0, coin, 0, MEN_MOST);
            System.arraycopy(other.seized, 0, seized, 0, MEN_MOST);
            System.arraycopy(other.fates, 0, fates, 0, DEEDS_MOST);
        }

        boolean isSeized(int man, int part) {
            return (seized[man] >> part & 1) != 0;
        }

        void turnNorth() {
            for (int man = 0; man < MEN_MOST; man++) {
                states[man] = Rules.facing(states[man], 0);
            }
        }

        /** COIN is less by so much, as far as it goes. */
        void pay(int man, int price) {
            coin[man] -= Math.min(price, coin[man]);
        }

        int fated(int fate, int deeds) {
            int found = 0;
            for (int d = 0; d < deeds && d < DEEDS_MOST; d++) {
                if (fates[d] == fate) {
                    found++;
                }
            }
            return found;
        }

        int allCoin(int men) {
            int sum = 0;
            for (int man = 0; man < men && man < MEN_MOST; man++) {
                sum += coin[man];
            }
            return sum;
        }
    }

    /** What is LAWFUL by the TEXT, or tried otherwise, and how HOURS go by under it. */
    private static final class Rules {
        Told told;
        /** What is TRIED; NONE if all is as it is. */
        int otherwise = NONE;
        /** The MAN who does nothing. */
        int idle = NONE;

        Rules(Told told) {
            this.told = told;
        }

        static int cellOf(int state) {
            return state / STATES_OF_CELL;
        }

        static int faceOf(int state) {
            return state >> 2 & 3;
        }

        static int handsOf(int state) {
            return state >> 1 & 1;
        }

        static int feetOf(int state) {
            return state & 1;
        }

        static int facing(int state, int face) {
            return state & ~12 | (face & 3) << 2;
        }

        /** Calls nothing itself: what asks for it is deep in calls already. */
        static int crossOf(int state, int part) {
            return (part < HANDS ? state >> 1 : state) & 1;
        }

        static int placeOf(int state, int part) {
            int face = faceOf(state);
            if (face == 1 || face == 3) {
                return cellOf(state);
            }
            int turned = face == 2 ? 1 : 0;
            int right = part & 1 ^ crossOf(state, part) ^ turned;
            return cellOf(state) + (right == 1 ? 1 : -1);
        }

        /** The STATE behind a MOVE; NONE if it can't be. */
        static int movedBy(int state, int move, int cells) {
            switch (move) {
                case 0: return facing(state, faceOf(state) + 1);
                case 1: return facing(state, faceOf(state) + 3);
                case 2: return state ^ 2;
                case 3: return state ^ 1;
                case 4: return cellOf(state) > 0 ? state - STATES_OF_CELL : NONE;
                case 5: return cellOf(state) + 1 < cells ? state + STATES_OF_CELL : NONE;
                default: return NONE;
            }
        }

        int landAt(int place) {
            return place >= 0 && place < told.cells ? told.landOf[place] : NO_LAND;
        }

        int sideOf(int man, int part) {
            int heart = otherwise == OTHER_HEARTS ? 1 - told.heart[man] : told.heart[man];
            return part & 1 ^ heart;
        }

        long worth(int rule, int man, int state, int part, int kind, int hour) {
            int[] names = told.laws.names;
            names[Laws.PART_NAME] = part;
            names[Laws.SIDE_NAME] = sideOf(man, part);
            names[Laws.WHERE_NAME] = landAt(placeOf(state, part));
            names[Laws.FACE_NAME] = faceOf(state);
            names[Laws.CROSS_NAME] = crossOf(state, part);
            names[Laws.DEED_NAME] = kind;
            names[Laws.HOUR_NAME] = hour;
            return told.laws.workOut(rule);
        }

        boolean binds(int man, int state, int part, int hour) {
            if (otherwise == NOBODY_BOUND) {
                return false;
            }
            long bind = worth(BIND, man, state, part, 0, hour);
            return bind == Laws.ERROR ? sideOf(man, part) == 0 : bind != 0;
        }

        private boolean permits(int man, int state, int part, int kind, int hour) {
            long may = worth(MAY, man, state, part, kind, hour);
            return may == Laws.ERROR ? kind != HIT : may != 0;
        }

        boolean bars(int state, int part) {
            int land = landAt(placeOf(state, part));
            return otherwise != NOTHING_BARRED && land != NO_LAND && (told.barred[land] >> part & 1) != 0;
        }

        boolean allows(int man, int state, int part, int kind, int hour) {
            return !bars(state, part)
                    && (!binds(man, state, part, hour) || permits(man, state, part, kind, hour));
        }

        int lawfulParts(int man, int state, int kind, int hour) {
            int parts = 0;
            for (int part = 0; part < PARTS; part++) {
                if (allows(man, state, part, kind, hour)) {
                    parts |= 1 << part;
                }
            }
            return parts;
        }

        /** The LANDS (bits) in which these PARTS (bits) lie; NO_LAND is a bit of its own. */
        int landsOf(int state, int parts) {
            int lands = 0;
            for (int part = 0; part < PARTS; part++) {
                if ((parts >> part & 1) != 0) {
                    lands |= 1 << landAt(placeOf(state, part));
                }
            }
            return lands;
        }

        int standing() {
            int cells = 0;
            for (int state = 0; state < told.states(); state++) {
                if (!barsSome(state)) {
                    cells |= 1 << cellOf(state);
                }
            }
            return cells;
        }

        private boolean barsSome(int state) {
            for (int part = 0; part < PARTS; part++) {
                if (bars(state, part)) {
                    return true;
                }
            }
            return false;
        }

        void passHour(Day day) {
            for (int d = 0; d < told.deeds; d++) {
                if (told.deedHour[d] == day.hour && told.deedMan[d] != idle) {
                    int man = told.deedMan[d];
                    int part = told.deedPart[d];
                    if (day.isSeized(man, part)) {
                        day.fates[d] = LEFT;
                    } else if (allows(man, day.states[man], part, told.deedKind[d], day.hour)) {
                        day.fates[d] = DONE;
                    } else {
                        day.fates[d] = CLASHED;
                        punish(day, man, part);
                    }
                }
            }
            if (day.hour == HOURS - 1) {
                collectTax(day);
            }
            day.hour++;
        }

        private void punish(Day day, int man, int part) {
            if (otherwise != NOTHING_SEIZED) {
                day.seized[man] |= 1 << part;
            }
            day.pay(man, told.fine);
        }

        private void collectTax(Day day) {
            for (int man = 0; man < told.men; man++) {
                for (int part = 0; part < PARTS; part++) {
                    long tax = worth(TAX, man, day.states[man], part, 0, day.hour);
                    // An ERROR is below 0, so that nothing is paid for it.
                    day.pay(man, (int) Math.max(0, Math.min(tax, TAX_MOST)));
                }
            }
        }

        /** The rest of a DAY by chance; the last number, from which the next DAY's go on. */
        long passByChance(Day day, long seed) {
            long last = seed;
            for (int hour = day.hour; hour < HOURS; hour++) {
                for (int man = 0; man < told.men; man++) {
                    last = last * 1103515245L + 12345L & 0x7fffffffL;
                    int next = movedBy(day.states[man], (int) (last / 65536 % MOVES), told.cells);
                    if (next != NONE) {
                        day.states[man] = next;
                    }
                }
                passHour(day);
            }
            return last;
        }
    }

    /** The shortest walks of a MAN to all his STATES. */
    private static final class Walks {
        private static final int PLACES = CELLS_MOST + 2;

        int size = 0;
        /** The STATES by how far they are, then by the MOVES that lead to them. */
        final int[] queue = new int[STATES_MOST];
        final int[] far = new int[STATES_MOST];
        private final int[] before = new int[STATES_MOST];
        private final int[] lastMove = new int[STATES_MOST];
        final int[] onePlaces = new int[PLACES];
        final int[] otherPlaces = new int[PLACES];

        void explore(int start, int cells) {
            Arrays.fill(far, NONE);
            size = 0;
            reachState(start, NONE, NONE);
            for (int i = 0; i < size && i < STATES_MOST; i++) {
                int state = queue[i];
                for (int move = 0; move < MOVES; move++) {
                    reachState(Rules.movedBy(state, move, cells), state, move);
                }
            }
        }

        private void reachState(int state, int from, int move) {
            if (state < 0 || state >= STATES_MOST || far[state] != NONE || size >= STATES_MOST) {
                return;
            }
            far[state] = from == NONE ? 0 : far[from] + 1;
            before[state] = from;
            lastMove[state] = move;
            queue[size] = state;
            size++;
        }

        /** The k-th MOVE (from 0 on) of the walk to a STATE that is more than k MOVES away. */
        int moveTo(int target, int k) {
            int state = target;
            for (int i = far[target]; i > k + 1; i--) {
                state = before[state];
            }
            return lastMove[state];
        }

        /** The least sum of two PLACES at most 1 apart. */
        int leastSum(int cells) {
            int least = NOT_THERE;
            for (int one = 0; one < cells + 2 && one < PLACES; one++) {
                for (int other = Math.max(one - 1, 0); other <= one + 1 && other < PLACES; other++) {
                    int sum = onePlaces[one] + otherPlaces[other];
                    boolean reached = onePlaces[one] != NONE && otherPlaces[other] != NONE;
                    if (reached && (least == NOT_THERE || sum < least)) {
                        least = sum;
                    }
                }
            }
            return least;
        }
    }

    /** What each pair of FACES is worth to the first of two MEN. */
    private static final class Duel {
        private final int[] gains = new int[FACES * FACES];

        void weigh(Rules rules, Day day, int one, int other) {
            for (int pair = 0; pair < FACES * FACES; pair++) {
                int oneState = Rules.facing(day.states[one], pair / FACES);
                int otherState = Rules.facing(day.states[other], pair % FACES);
                gains[pair] = hits(rules, one, oneState, otherState, day.hour)
                        - hits(rules, other, otherState, oneState, day.hour);
            }
        }

        private static int hits(Rules rules, int man, int state, int otherState, int hour) {
            int found = 0;
            for (int hand = 0; hand < HANDS; hand++) {
                boolean meets = hasPartAt(otherState, Rules.placeOf(state, hand));
                if (meets && rules.allows(man, state, hand, HIT, hour)) {
                    found++;
                }
            }
            return found;
        }

        private static boolean hasPartAt(int state, int place) {
            for (int part = 0; part < PARTS; part++) {
                if (Rules.placeOf(state, part) == place) {
                    return true;
                }
            }
            return false;
        }

        boolean isRest(int pair) {
            int oneFace = pair / FACES;
            int otherFace = pair % FACES;
            for (int face = 0; face < FACES; face++) {
                boolean oneWould = gains[face * FACES + otherFace] > gains[pair];
                boolean otherWould = gains[oneFace * FACES + face] < gains[pair];
                if (oneWould || otherWould) {
                    return false;
                }
            }
            return true;
        }
    }

    /** PRINTS and STRIKES, as they came. */
    private static final class Prints {
        int size = 0;
        /** By how many of them is KNOWN; NONE: by all. */
        int limit = NONE;
        private final int[] moves = new int[PRINTS_MOST];
        private final int[] parts = new int[PRINTS_MOST];
        private final int[] cellsOf = new int[PRINTS_MOST];
        /** Of a STRIKE what it strikes, of a PRINT NONE. */
        private final int[] strikes = new int[PRINTS_MOST];
        private final boolean[] struck = new boolean[PRINTS_MOST];
        /** Of each CELL the STATES there (bits) that a MAN may be in. */
        private final int[] reached = new int[CELLS_MOST];
        private final int[] spread = new int[CELLS_MOST];

        void forget() {
            size = 0;
            limit = NONE;
        }

        int reach() {
            return limit == NONE ? size : limit;
        }

        int add(int after, int part, int cell, int target) {
            if (size >= PRINTS_MOST) {
                return NONE;
            }
            moves[size] = after;
            parts[size] = part;
            cellsOf[size] = cell;
            strikes[size] = target;
            size++;
            return size - 1;
        }

        /** Finds out which ones are STRUCK: from the last on, as only later ones strike one. */
        void weigh() {
            for (int i = 0; i < PRINTS_MOST; i++) {
                struck[i] = false;
            }
            for (int i = reach() - 1; i >= 0; i--) {
                if (!struck[i] && strikes[i] >= 0 && strikes[i] < PRINTS_MOST) {
                    struck[strikes[i]] = true;
                }
            }
        }

        private boolean isKnown(int i) {
            return !struck[i] && strikes[i] == NONE;
        }

        /** Whether somebody could have made all KNOWN ones from this STATE on. */
        boolean fit(int start, int cells) {
            Arrays.fill(reached, 0);
            int cell = Rules.cellOf(start);
            if (cell < 0 || cell >= CELLS_MOST) {
                return false;
            }
            reached[cell] = 1 << start % STATES_OF_CELL;
            int last = lastTime();
            for (int time = 0; time <= last; time++) {
                if (time > 0) {
                    spreadOut(cells);
                }
                if (!sift(time, cells)) {
                    return false;
                }
            }
            return true;
        }

        private int lastTime() {
            int last = NONE;
            for (int i = 0; i < reach(); i++) {
                if (isKnown(i)) {
                    last = Math.max(last, moves[i]);
                }
            }
            return last;
        }

        /** One MOVE or none, of all STATES at once. */
        private void spreadOut(int cells) {
            for (int cell = 0; cell < cells; cell++) {
                int here = reached[cell];
                int turned = here << 4 | here >> 12 | here >> 4 | here << 12;
                int hands = (here & 0x3333) << 2 | here >> 2 & 0x3333;
                int feet = (here & 0x5555) << 1 | here >> 1 & 0x5555;
                int below = cell > 0 ? reached[cell - 1] : 0;
                int above = cell + 1 < cells ? reached[cell + 1] : 0;
                spread[cell] = (here | turned | hands | feet | below | above) & 0xffff;
            }
            System.arraycopy(spread, 0, reached, 0, cells);
        }

        /** Leaves the STATES that fit the PRINTS of a time; false if none is left. */
        private boolean sift(int time, int cells) {
            int left = 0;
            for (int i = 0; i < reach(); i++) {
                if (moves[i] == time && isKnown(i)) {
                    siftBy(i, cells);
                }
            }
            for (int cell = 0; cell < cells; cell++) {
                left |= reached[cell];
            }
            return left != 0;
        }

        private void siftBy(int print, int cells) {
            for (int cell = 0; cell < cells; cell++) {
                for (int i = 0; i < STATES_OF_CELL; i++) {
                    if (Rules.placeOf(cell * STATES_OF_CELL + i, parts[print]) != cellsOf[print]) {
                        reached[cell] &= ~(1 << i);
                    }
                }
            }
        }
    }

    /** What MOVES and PARTS freed by call changed, for undoing it. */
    private static final class Undone {
        int size = 0;
        private final int[] men = new int[UNDONE_MOST];
        private final int[] states = new int[UNDONE_MOST];
        private final int[] coin = new int[UNDONE_MOST];
        private final int[] seized = new int[UNDONE_MOST];
        private final int[] moves = new int[UNDONE_MOST];

        void forget() {
            size = 0;
        }

        /** Keeps how a MAN is now; the oldest is given up for it, if need be. */
        void remember(Day day, int man) {
            if (size >= UNDONE_MOST) {
                dropOldest();
            }
            men[size] = man;
            states[size] = day.states[man];
            coin[size] = day.coin[man];
            seized[size] = day.seized[man];
            moves[size] = day.moves;
            size++;
        }

        private void dropOldest() {
            size = UNDONE_MOST - 1;
            System.arraycopy(men, 1, men, 0, size);
            System.arraycopy(states, 1, states, 0, size);
            System.arraycopy(coin, 1, coin, 0, size);
            System.arraycopy(seized, 1, seized, 0, size);
            System.arraycopy(moves, 1, moves, 0, size);
        }

        /** How many are left; NONE if there was none. */
        int takeBack(Day day) {
            if (size <= 0) {
                return NONE;
            }
            size--;
            int man = men[size];
            day.states[man] = states[size];
            day.coin[man] = coin[size];
            day.seized[man] = seized[size];
            day.moves = moves[size];
            return size;
        }
    }
}
