/**
 * A roster of people by days, and the laws that are told of it as a text.
 *
 * Inside, every cell holds a letter 0 .. 8 (0 is OFF, 1 .. 8 are the shifts 0 .. 7), so that
 * rows can be run through the patterns as they stand; the face turns shifts into letters.
 */
public final class RosterRules {
    public static final int BAD = -1, NO = -2, FULL = -3;

    private static final int BAD_CELL = -9;
    private static final long NO_SUCH_CELL = 1L << 62;
    private static final int LETTERS = 9;
    private static final int OFF = 0;
    private static final int ENDS = 9;
    private static final int PAST_DAYS = 7;
    private static final int DAY_MINUTES = 1440;
    private static final int MOST_PEOPLE = 8;
    private static final int MOST_DAYS = 21;
    private static final int MOST_LAWS = 16;
    private static final int MOST_WEIGHT = 1000;
    private static final int MOST_STEPS = 3;
    private static final int LONGEST_WORDS = 40;
    private static final int SKILLS = 10;
    private static final int TAPE_BYTES = 1500;
    private static final int FEED_BYTES = 8;

    private final Tape tape = new Tape();
    private final Roster roster;
    private final Judge judge;
    private final History history = new History();
    private final LawReader reader;
    private final AutomatonMaker maker = new AutomatonMaker();
    /** The standing laws; the spare ones take a text that may yet turn out to be faulty. */
    private Law[] laws = new Law[MOST_LAWS];
    private Law[] spareLaws = new Law[MOST_LAWS];
    private int lawCount;

    public RosterRules(int people, int days) {
        roster = new Roster(Math.max(1, Math.min(MOST_PEOPLE, people)), Math.max(1, Math.min(MOST_DAYS, days)));
        judge = new Judge(roster);
        reader = new LawReader(tape, roster.days);
        for (int k = 0; k < MOST_LAWS; k++) {
            laws[k] = new Law();
            spareLaws[k] = new Law();
        }
    }

    public int feed(int n, long bytes) {
        if (n < 1 || n > FEED_BYTES) {
            return BAD;
        }
        if (tape.length + n > TAPE_BYTES) {
            return FULL;
        }
        tape.append(n, bytes);
        return tape.length;
    }

    public int read() {
        int found = reader.readLaws(spareLaws);
        tape.length = 0;
        if (reader.fault != 0) {
            return -10 - reader.fault;
        }
        Law[] former = laws;
        laws = spareLaws;
        spareLaws = former;
        lawCount = found;
        return found;
    }

    public int place() {
        return reader.faultPlace;
    }

    public int shift(int k, int begin, int minutes, int skill) {
        if (!isShift(k) || begin < 0 || begin >= DAY_MINUTES || minutes < 1 || minutes > DAY_MINUTES
                || skill < 0 || skill >= SKILLS) {
            return BAD;
        }
        roster.begins[k + 1] = begin;
        roster.lengths[k + 1] = minutes;
        roster.needs[k + 1] = skill;
        return 1;
    }

    public int person(int p, int skills) {
        if (!isPerson(p) || skills < 0 || skills >= 1 << SKILLS) {
            return BAD;
        }
        roster.skills[p] = skills;
        return 1;
    }

    public int past(int p, int i, int shift) {
        if (!isPerson(p) || i < 1 || i > PAST_DAYS || !isShiftOrOff(shift)) {
            return BAD_CELL;
        }
        int former = roster.rows[p][PAST_DAYS - i];
        roster.rows[p][PAST_DAYS - i] = shift + 1;
        return former - 1;
    }

    public int wish(int p, int day, int shift, int weight) {
        if (!isCell(p, day) || !isShiftOrOff(shift) || weight < 0 || weight > MOST_WEIGHT) {
            return BAD;
        }
        roster.setWish(p, day, shift + 1, weight);
        return 1;
    }

    public int at(int p, int day) {
        return isCell(p, day) ? roster.letterOf(p, day) - 1 : BAD_CELL;
    }

    public long put(int p, int day, int shift) {
        if (!isCell(p, day) || !isShiftOrOff(shift)) {
            return NO_SUCH_CELL;
        }
        long difference = differenceBy(p, day, shift + 1);
        keepCell(p, day, shift + 1);
        return difference;
    }

    public long change(int p, int day, int shift) {
        if (!isCell(p, day) || !isShiftOrOff(shift)) {
            return NO_SUCH_CELL;
        }
        return differenceBy(p, day, shift + 1);
    }

    public int undo() {
        if (history.kept == 0) {
            return NO;
        }
        int newest = history.newest;
        roster.setCell(history.people[newest], history.days[newest], history.letters[newest]);
        history.dropNewest();
        return history.kept;
    }

    public int best(int p, int day) {
        return isCell(p, day) ? bestLetter(p, day) - 1 : BAD_CELL;
    }

    public int descend(int n) {
        if (n < 0 || n > MOST_STEPS) {
            return BAD;
        }
        int done = 0;
        while (done < n && stepDown()) {
            done++;
        }
        return done;
    }

    public long broken(int law, int k) {
        if (!isLaw(law)) {
            return BAD;
        }
        Law asked = laws[law];
        if (k == -1) {
            return judge.everywhere(asked);
        }
        if (asked.sort == Law.COVER) {
            return isDay(k) ? judge.coverAmiss(asked, k) : BAD;
        }
        return asked.sort != Law.FAIR && isPerson(k) ? judge.ofPerson(asked, k) : BAD;
    }

    public long score() {
        long sum = roster.allWishesCost();
        for (int k = 0; k < lawCount; k++) {
            sum += laws[k].weight * judge.everywhere(laws[k]);
        }
        return sum;
    }

    public long minutes(int p, int from, int to) {
        if (!isCell(p, from) || !isDay(to) || to < from) {
            return BAD;
        }
        return roster.minutesBetween(p, from, to);
    }

    public int law(int k, int what) {
        if (!isLaw(k) || what < 0 || what > 4) {
            return BAD;
        }
        Law asked = laws[k];
        switch (what) {
            case 0:
                return asked.sort;
            case 1:
                return asked.weight;
            case 2:
                return asked.begin;
            case 3:
                return asked.hasPattern() ? automatonOf(asked).states : NO;
            default:
                return asked.hasPattern() ? asked.positions.size : NO;
        }
    }

    public int state(int k, int state, int letter) {
        if (!isLaw(k) || state < 0 || letter < 0 || letter > ENDS) {
            return BAD;
        }
        if (!laws[k].hasPattern()) {
            return NO;
        }
        Automaton automaton = automatonOf(laws[k]);
        return state < automaton.states ? automaton.entry(state, letter) : BAD;
    }

    public int alike(int a, int b) {
        if (!isLaw(a) || !isLaw(b)) {
            return BAD;
        }
        if (!laws[a].hasPattern() || !laws[b].hasPattern()) {
            return NO;
        }
        return automatonOf(laws[a]).equalTo(automatonOf(laws[b])) ? 1 : 0;
    }

    public long words(int k, int n) {
        if (!isLaw(k) || !laws[k].hasPattern() || n < 0 || n > LONGEST_WORDS) {
            return BAD;
        }
        return maker.wordsOf(automatonOf(laws[k]), n);
    }

    public int word(int k, int i) {
        if (!isLaw(k) || i < 0) {
            return BAD;
        }
        return laws[k].hasPattern() ? automatonOf(laws[k]).letterOfShortest(i) : NO;
    }

    public int count(int what) {
        switch (what) {
            case 0:
                return lawCount;
            case 1:
                return tape.length;
            case 2:
                return roster.filled;
            case 3:
                return roster.wishes;
            case 4:
                return history.kept;
            default:
                return BAD;
        }
    }

    private boolean isPerson(int p) {
        return p >= 0 && p < roster.people;
    }

    private boolean isDay(int day) {
        return day >= 0 && day < roster.days;
    }

    private boolean isCell(int p, int day) {
        return isPerson(p) && isDay(day);
    }

    private boolean isShift(int shift) {
        return shift >= 0 && shift < LETTERS - 1;
    }

    private boolean isShiftOrOff(int shift) {
        return shift == -1 || isShift(shift);
    }

    private boolean isLaw(int k) {
        return k >= 0 && k < lawCount;
    }

    /** Most texts are never asked for their automata, and a large one is dear: made when asked for. */
    private Automaton automatonOf(Law asked) {
        if (asked.automaton.states == 0) {
            maker.make(asked.positions, asked.automaton);
        }
        return asked.automaton;
    }

    /** That part of the score which a change of this cell can change. */
    private long costAround(int p, int day) {
        long sum = roster.wishCost(p, day);
        for (int k = 0; k < lawCount; k++) {
            sum += laws[k].weight * judge.aroundCell(laws[k], p, day);
        }
        return sum;
    }

    private long differenceBy(int p, int day, int letter) {
        int former = roster.letterOf(p, day);
        long before = costAround(p, day);
        roster.setCell(p, day, letter);
        long behind = costAround(p, day);
        roster.setCell(p, day, former);
        return behind - before;
    }

    private void keepCell(int p, int day, int letter) {
        history.keep(p, day, roster.letterOf(p, day));
        roster.setCell(p, day, letter);
    }

    private int bestLetter(int p, int day) {
        int former = roster.letterOf(p, day);
        int best = OFF;
        long least = 0;
        for (int letter = OFF; letter < LETTERS; letter++) {
            roster.setCell(p, day, letter);
            long cost = costAround(p, day);
            if (letter == OFF || cost < least) {
                least = cost;
                best = letter;
            }
        }
        roster.setCell(p, day, former);
        return best;
    }

    private boolean stepDown() {
        long steepest = 0;
        int person = 0;
        int onDay = 0;
        int letter = OFF;
        for (int p = 0; p < roster.people; p++) {
            for (int day = 0; day < roster.days; day++) {
                int candidate = bestLetter(p, day);
                long difference = differenceBy(p, day, candidate);
                if (difference < steepest) {
                    steepest = difference;
                    person = p;
                    onDay = day;
                    letter = candidate;
                }
            }
        }
        if (steepest < 0) {
            keepCell(person, onDay, letter);
        }
        return steepest < 0;
    }

    /** The bytes of a text of laws. */
    private static final class Tape {
        static final int END = -1;

        private final int[] bytes = new int[TAPE_BYTES];
        private int length;

        void append(int n, long number) {
            for (int i = 0; i < n && length < TAPE_BYTES; i++) {
                bytes[length] = (int) (number >>> (8 * i)) & 255;
                length++;
            }
        }

        int byteAt(int i) {
            return i >= 0 && i < length ? bytes[i] : END;
        }
    }

    /** The tape cut into tokens, one at a time. */
    private static final class Tokens {
        static final int NONE = 0, END = 1, WORD = 2, NUMBER = 3, PATTERN = 4, SEMICOLON = 5;
        static final int LONGEST_PATTERN = 40;

        private static final int LONGEST_WORD = 8;
        private static final int LONGEST_NUMBER = 6;

        private final Tape tape;
        private int kind;
        private int begin;
        private int end;

        Tokens(Tape tape) {
            this.tape = tape;
        }

        void rewind() {
            end = 0;
        }

        /** Goes to the next token; NONE when no token begins there, or it is too long, or does not end. */
        int advance() {
            begin = end;
            while (begin < tape.length && (tape.bytes[begin] == 10 || tape.bytes[begin] == 32)) {
                begin++;
            }
            end = begin;
            kind = kindFrom(tape.byteAt(begin));
            return kind;
        }

        private int kindFrom(int first) {
            if (first == Tape.END) {
                return END;
            }
            if (first == ';') {
                end = begin + 1;
                return SEMICOLON;
            }
            if (first >= 'a' && first <= 'z') {
                end = runEnd('a', 'z');
                return end - begin <= LONGEST_WORD ? WORD : NONE;
            }
            if (first >= '0' && first <= '9') {
                end = runEnd('0', '9');
                return end - begin <= LONGEST_NUMBER ? NUMBER : NONE;
            }
            return first == '"' && closePattern() ? PATTERN : NONE;
        }

        private int runEnd(int low, int high) {
            int i = begin;
            while (i < tape.length && tape.bytes[i] >= low && tape.bytes[i] <= high) {
                i++;
            }
            return i;
        }

        private boolean closePattern() {
            int i = begin + 1;
            while (i < tape.length && tape.bytes[i] != '"' && tape.bytes[i] >= 33 && tape.bytes[i] <= 126) {
                i++;
            }
            end = i + 1;
            return i < tape.length && tape.bytes[i] == '"' && i - begin - 1 <= LONGEST_PATTERN;
        }

        boolean spells(String name) {
            if (kind != WORD || name.length() != end - begin) {
                return false;
            }
            for (int i = 0; i < name.length(); i++) {
                if (tape.byteAt(begin + i) != name.charAt(i)) {
                    return false;
                }
            }
            return true;
        }

        int value() {
            int value = 0;
            for (int i = begin; i < end; i++) {
                value = value * 10 + tape.byteAt(i) - '0';
            }
            return value;
        }

        /** The letter that a word of one letter names, OFF when it names none. */
        int namedLetter() {
            int first = tape.byteAt(begin);
            return kind == WORD && end - begin == 1 && first <= 'h' ? first - 'a' + 1 : OFF;
        }
    }

    /** One law. All its rows are made once, and used again by each text that is read. */
    private static final class Law {
        static final int SKILL = 0, REST = 1, HOURS = 2, NEVER = 3, WHOLE = 4, FAIR = 5, COVER = 6;
        static final int SORTS = 7;

        private final Positions positions = new Positions();
        private final Automaton automaton = new Automaton();
        private int sort;
        private int weight;
        private int begin;
        private int low;
        private int high;
        private int span;
        private int letter;

        static String nameOf(int sort) {
            switch (sort) {
                case SKILL:
                    return "skill";
                case REST:
                    return "rest";
                case HOURS:
                    return "hours";
                case NEVER:
                    return "never";
                case WHOLE:
                    return "whole";
                case FAIR:
                    return "fair";
                default:
                    return "cover";
            }
        }

        void start(int newSort, int newBegin) {
            sort = newSort;
            begin = newBegin;
            automaton.states = 0;
        }

        boolean hasPattern() {
            return sort == NEVER || sort == WHOLE;
        }
    }

    /** Reads the tape as laws. After the first fault every further step is passed over. */
    private static final class LawReader {
        static final int NO_TOKEN = 1, MISPLACED = 2, TOO_MANY = 3, OUT_OF_RANGE = 4;

        private static final int MOST_REST = 10000;
        private static final int MOST_HOURS = 99999;

        private final Tokens tokens;
        private final PatternParser patterns;
        private final int days;
        private int fault;
        private int faultPlace = NO;

        LawReader(Tape tape, int days) {
            tokens = new Tokens(tape);
            patterns = new PatternParser(tape);
            this.days = days;
        }

        int readLaws(Law[] into) {
            fault = 0;
            faultPlace = NO;
            tokens.rewind();
            int found = 0;
            for (int turn = 0; turn <= MOST_LAWS && fault == 0; turn++) {
                int kind = tokens.advance();
                if (kind == Tokens.END) {
                    break;
                }
                if (kind == Tokens.NONE) {
                    refuse(NO_TOKEN, tokens.begin);
                } else if (turn >= into.length) {
                    refuse(TOO_MANY, tokens.begin);
                } else {
                    readLaw(into[turn]);
                    found++;
                }
            }
            return found;
        }

        private void refuse(int newFault, int where) {
            fault = newFault;
            faultPlace = where;
        }

        private void readLaw(Law into) {
            int sort = sortNamed();
            if (sort < 0) {
                refuse(MISPLACED, tokens.begin);
                return;
            }
            into.start(sort, tokens.begin);
            switch (sort) {
                case Law.REST:
                    into.low = number(0, MOST_REST);
                    break;
                case Law.HOURS:
                    into.low = number(0, MOST_HOURS);
                    into.high = number(into.low, MOST_HOURS);
                    into.span = number(1, days);
                    break;
                case Law.NEVER:
                case Law.WHOLE:
                    pattern(into.positions);
                    break;
                case Law.FAIR:
                    into.letter = shiftLetter();
                    break;
                case Law.COVER:
                    into.letter = shiftLetter();
                    into.low = number(0, MOST_PEOPLE);
                    into.high = number(into.low, MOST_PEOPLE);
                    break;
                default:
                    break;
            }
            into.weight = number(0, MOST_WEIGHT);
            expect(Tokens.SEMICOLON);
        }

        private int sortNamed() {
            for (int sort = 0; sort < Law.SORTS; sort++) {
                if (tokens.spells(Law.nameOf(sort))) {
                    return sort;
                }
            }
            return -1;
        }

        private boolean expect(int kind) {
            if (fault != 0) {
                return false;
            }
            int met = tokens.advance();
            if (met != kind) {
                refuse(met == Tokens.NONE ? NO_TOKEN : MISPLACED, tokens.begin);
            }
            return met == kind;
        }

        private int number(int least, int most) {
            if (!expect(Tokens.NUMBER)) {
                return least;
            }
            int value = tokens.value();
            if (value < least || value > most) {
                refuse(OUT_OF_RANGE, tokens.begin);
            }
            return value;
        }

        private int shiftLetter() {
            if (!expect(Tokens.WORD)) {
                return OFF;
            }
            int letter = tokens.namedLetter();
            if (letter == OFF) {
                refuse(MISPLACED, tokens.begin);
            }
            return letter;
        }

        private void pattern(Positions into) {
            if (!expect(Tokens.PATTERN)) {
                return;
            }
            patterns.parse(tokens.begin, into);
            if (patterns.fault != 0) {
                refuse(patterns.fault, patterns.faultPlace);
            }
        }
    }

    /**
     * Reads a pattern byte by byte, and puts its places together as it goes. What stands before
     * the latest item is kept for each depth of brackets; the item itself is chained to its row
     * only when it is known whether it is repeated.
     */
    private static final class PatternParser {
        private static final int DEEPEST = Tokens.LONGEST_PATTERN;
        private static final int ANY_LETTER = (1 << LETTERS) - 1;
        private static final int NO_ITEM = -1;
        private static final int NO_WORDS = 0;
        /** Repeats are one number, 10 times the least and the most; a most of 0 is endless. */
        private static final int ANY_TIMES = 0, ONCE_OR_MORE = 10, ONCE_OR_NOT = 1, ONCE = 11;
        private static final int ENDLESS = 0;

        private final Tape tape;
        /** By depth: the rows that a | has ended, the row that goes on, and the places before the ( . */
        private final int[] ended = new int[DEEPEST + 1];
        private final int[] rows = new int[DEEPEST + 1];
        private final int[] begins = new int[DEEPEST + 1];
        private int depth;
        private int item;
        private int itemBegin;
        private boolean repeatable;
        private boolean closed;
        private int next;
        private int fault;
        private int faultPlace;

        PatternParser(Tape tape) {
            this.tape = tape;
        }

        /** The opening quote stands at a place, and Tokens has found the closing one. */
        void parse(int quote, Positions into) {
            into.clear();
            fault = 0;
            closed = false;
            next = quote + 1;
            item = NO_ITEM;
            depth = 0;
            ended[0] = NO_WORDS;
            rows[0] = Positions.EMPTY;
            for (int i = 0; i <= Tokens.LONGEST_PATTERN && fault == 0 && !closed; i++) {
                takeByte(tape.byteAt(next), into);
            }
            if (closed && into.overfull) {
                refuse(LawReader.TOO_MANY, quote);
            } else if (closed) {
                into.finish(item);
            }
        }

        private void refuse(int newFault, int where) {
            fault = newFault;
            faultPlace = where;
        }

        private void takeByte(int c, Positions into) {
            int letters = c == '[' ? choice() : c == '.' ? ANY_LETTER : letterBit(c);
            if (fault != 0) {
                return;
            }
            if (letters != 0) {
                addAtom(letters, into);
            } else if (c == '(' && depth < DEEPEST) {
                openGroup(into);
            } else if (item == NO_ITEM) {
                refuse(LawReader.MISPLACED, next);
            } else if (c == '|' || c == ')' && depth > 0 || c == '"' && depth == 0) {
                endRow(c, into);
            } else if (repeatable) {
                repeatItem(c == '{' ? timesInBraces() : timesBySign(c), into);
            } else {
                refuse(LawReader.MISPLACED, next);
            }
            next++;
        }

        private int letterBit(int c) {
            if (c == '-') {
                return 1 << OFF;
            }
            return c >= 'a' && c <= 'h' ? 1 << c - 'a' + 1 : 0;
        }

        /** The letters of a [ ], up to whose last byte it goes. */
        private int choice() {
            next++;
            boolean others = tape.byteAt(next) == '^';
            if (others) {
                next++;
            }
            int letters = 0;
            for (int i = 0; i < Tokens.LONGEST_PATTERN && letterBit(tape.byteAt(next)) != 0; i++) {
                letters |= letterBit(tape.byteAt(next));
                next++;
            }
            if (letters == 0 || tape.byteAt(next) != ']' || others && letters == ANY_LETTER) {
                refuse(LawReader.MISPLACED, next);
            }
            return others ? ANY_LETTER & ~letters : letters;
        }

        private void addAtom(int letters, Positions into) {
            if (item != NO_ITEM) {
                rows[depth] = into.chain(rows[depth], item);
            }
            itemBegin = into.size;
            item = into.add(letters);
            repeatable = true;
        }

        private void openGroup(Positions into) {
            if (item != NO_ITEM) {
                rows[depth] = into.chain(rows[depth], item);
            }
            depth++;
            ended[depth] = NO_WORDS;
            rows[depth] = Positions.EMPTY;
            begins[depth] = into.size;
            item = NO_ITEM;
        }

        private void endRow(int c, Positions into) {
            int all = ended[depth] | into.chain(rows[depth], item);
            if (c == '|') {
                ended[depth] = all;
                rows[depth] = Positions.EMPTY;
                item = NO_ITEM;
                return;
            }
            item = all;
            itemBegin = begins[depth];
            repeatable = true;
            closed = c == '"';
            depth = Math.max(0, depth - 1);
        }

        private int timesBySign(int c) {
            switch (c) {
                case '*':
                    return ANY_TIMES;
                case '+':
                    return ONCE_OR_MORE;
                case '?':
                    return ONCE_OR_NOT;
                default:
                    refuse(LawReader.MISPLACED, next);
                    return ONCE;
            }
        }

        /** The times of a { }, up to whose last byte it goes. */
        private int timesInBraces() {
            int least = tape.byteAt(next + 1) - '0';
            int most = tape.byteAt(next + 3) - '0';
            if (least < 0 || least > 9) {
                refuse(LawReader.MISPLACED, next + 1);
            } else if (tape.byteAt(next + 2) != ',') {
                refuse(LawReader.MISPLACED, next + 2);
            } else if (most < 0 || most > 9) {
                refuse(LawReader.MISPLACED, next + 3);
            } else if (most == 0 || most < least) {
                refuse(LawReader.OUT_OF_RANGE, next + 3);
            } else if (tape.byteAt(next + 4) != '}') {
                refuse(LawReader.MISPLACED, next + 4);
            }
            next += 4;
            return fault == 0 ? 10 * least + most : ONCE;
        }

        private void repeatItem(int times, Positions into) {
            int least = times / 10;
            int most = times % 10;
            repeatable = false;
            if (most == ENDLESS) {
                into.chain(item, item);
                item |= least == 0 ? Positions.EMPTY : 0;
                return;
            }
            int width = into.size - itemBegin;
            into.copyPlaces(itemBegin, width, most - 1);
            if (into.overfull) {
                return;
            }
            int whole = Positions.EMPTY;
            for (int i = 0; i < most; i++) {
                int copy = (item & ~Positions.EMPTY) << i * width | item & Positions.EMPTY;
                whole = into.chain(whole, i < least ? copy : copy | Positions.EMPTY);
            }
            item = whole;
        }
    }

    /**
     * A pattern as its places: which letters each takes, and which may follow which. Sets of places
     * are bits, so that all ways through a row are followed at once, without an automaton.
     *
     * A fragment of a pattern is one number: the places that may be its first (bits 0 .. 9), its
     * last (bits 10 .. 19), and whether the empty row is a word of it (bit 20); so the fragment
     * of an alternative is the | of its sides.
     */
    private static final class Positions {
        static final int MOST = 10;
        static final int EMPTY = 1 << 2 * MOST;

        private static final int ALL = (1 << MOST) - 1;
        private static final int HALF = 5;
        private static final int HALF_SETS = 1 << HALF;

        /** For each letter the places that take it. */
        private final int[] takers = new int[LETTERS];
        private final int[] followers = new int[MOST];
        /** What follows any set of the lower and of the upper places: a step is two looks. */
        private final int[] afterLower = new int[HALF_SETS];
        private final int[] afterUpper = new int[HALF_SETS];
        private int size;
        private boolean overfull;
        private int first;
        private int last;
        private boolean takesEmpty;

        void clear() {
            size = 0;
            overfull = false;
            for (int letter = 0; letter < LETTERS; letter++) {
                takers[letter] = 0;
            }
            for (int i = 0; i < MOST; i++) {
                followers[i] = 0;
            }
        }

        int add(int letters) {
            if (size >= MOST) {
                overfull = true;
                return EMPTY;
            }
            int bit = 1 << size;
            size++;
            for (int letter = 0; letter < LETTERS; letter++) {
                if ((letters >> letter & 1) != 0) {
                    takers[letter] |= bit;
                }
            }
            return bit | bit << MOST;
        }

        /** Only before these places are chained to others: their copies would have those ways, too. */
        void copyPlaces(int from, int width, int times) {
            if (size + width * times > MOST) {
                overfull = true;
                return;
            }
            int copied = (1 << width) - 1 << from;
            for (int apart = width; apart <= width * times && width > 0; apart += width) {
                for (int letter = 0; letter < LETTERS; letter++) {
                    takers[letter] |= (takers[letter] & copied) << apart;
                }
                for (int i = from; i < from + width; i++) {
                    followers[i + apart] = followers[i] << apart;
                }
            }
            size += width * times;
        }

        int chain(int before, int behind) {
            for (int i = 0; i < size; i++) {
                if ((before >> MOST + i & 1) != 0) {
                    followers[i] |= behind & ALL;
                }
            }
            int firsts = before & ALL | ((before & EMPTY) != 0 ? behind & ALL : 0);
            int lasts = behind & ALL << MOST | ((behind & EMPTY) != 0 ? before & ALL << MOST : 0);
            return firsts | lasts | before & behind & EMPTY;
        }

        void finish(int whole) {
            first = whole & ALL;
            last = whole >> MOST & ALL;
            takesEmpty = (whole & EMPTY) != 0;
            for (int set = 0; set < HALF_SETS; set++) {
                afterLower[set] = followersOf(set, 0);
                afterUpper[set] = followersOf(set, HALF);
            }
        }

        private int followersOf(int set, int from) {
            int all = 0;
            for (int i = 0; i < HALF; i++) {
                if ((set >> i & 1) != 0) {
                    all |= followers[from + i];
                }
            }
            return all;
        }

        int after(int set) {
            return afterLower[set & HALF_SETS - 1] | afterUpper[set >> HALF & HALF_SETS - 1];
        }
    }

    /** The people, their cells and wishes, and the shifts. */
    private static final class Roster {
        private static final int FIRST_BEGIN = 480;
        private static final int FIRST_LENGTH = 480;

        private final int people;
        private final int days;
        /** By letter; OFF has a length of 0, so that sums need no test for it. */
        private final int[] begins = new int[LETTERS];
        private final int[] lengths = new int[LETTERS];
        private final int[] needs = new int[LETTERS];
        private final int[] skills;
        /** By person the letters of PAST and days: day 0 stands at index 7. */
        private final int[][] rows;
        private final int[][] wished;
        private final int[][] weights;
        /** How often each person, and on each day, a letter stands: kept, as descents ask for it most. */
        private final int[][] timesOf;
        private final int[][] timesOn;
        private int filled;
        private int wishes;

        Roster(int people, int days) {
            this.people = people;
            this.days = days;
            skills = new int[people];
            rows = new int[people][PAST_DAYS + days];
            wished = new int[people][days];
            weights = new int[people][days];
            timesOf = new int[people][LETTERS];
            timesOn = new int[days][LETTERS];
            for (int letter = OFF + 1; letter < LETTERS; letter++) {
                begins[letter] = FIRST_BEGIN;
                lengths[letter] = FIRST_LENGTH;
            }
            for (int p = 0; p < people; p++) {
                skills[p] = (1 << SKILLS) - 1;
                timesOf[p][OFF] = days;
            }
            for (int day = 0; day < days; day++) {
                timesOn[day][OFF] = people;
            }
        }

        int letterOf(int p, int day) {
            return rows[p][PAST_DAYS + day];
        }

        void setCell(int p, int day, int letter) {
            int former = letterOf(p, day);
            rows[p][PAST_DAYS + day] = letter;
            timesOf[p][former]--;
            timesOn[day][former]--;
            timesOf[p][letter]++;
            timesOn[day][letter]++;
            filled += (letter == OFF ? 0 : 1) - (former == OFF ? 0 : 1);
        }

        void setWish(int p, int day, int letter, int weight) {
            wishes += (weight == 0 ? 0 : 1) - (weights[p][day] == 0 ? 0 : 1);
            wished[p][day] = letter;
            weights[p][day] = weight;
        }

        long wishCost(int p, int day) {
            return letterOf(p, day) == wished[p][day] ? 0 : weights[p][day];
        }

        long allWishesCost() {
            long sum = 0;
            for (int p = 0; p < people; p++) {
                for (int day = 0; day < days; day++) {
                    sum += wishCost(p, day);
                }
            }
            return sum;
        }

        long minutesBetween(int p, int from, int to) {
            long sum = 0;
            for (int day = from; day <= to; day++) {
                sum += lengths[letterOf(p, day)];
            }
            return sum;
        }

        /** From the end of a shift to the beginning of one some days later; below 0 if they overlap. */
        int gap(int earlier, int later, int daysApart) {
            return daysApart * DAY_MINUTES + begins[later] - begins[earlier] - lengths[earlier];
        }
    }

    /** What of a law is broken. */
    private static final class Judge {
        private final Roster roster;

        Judge(Roster roster) {
            this.roster = roster;
        }

        long everywhere(Law law) {
            if (law.sort == Law.FAIR) {
                return unfairness(law.letter);
            }
            long sum = 0;
            if (law.sort == Law.COVER) {
                for (int day = 0; day < roster.days; day++) {
                    sum += coverAmiss(law, day);
                }
                return sum;
            }
            for (int p = 0; p < roster.people; p++) {
                sum += ofPerson(law, p);
            }
            return sum;
        }

        long ofPerson(Law law, int p) {
            switch (law.sort) {
                case Law.SKILL:
                    return unskilled(p, 0, roster.days - 1);
                case Law.REST:
                    return shortRests(law.low, p);
                case Law.HOURS:
                    return hoursAmiss(law, p, 0, roster.days - law.span);
                case Law.NEVER:
                    return matches(law.positions, p);
                case Law.WHOLE:
                    return noWord(law.positions, p);
                default:
                    return 0;
            }
        }

        /** A part of what is broken that holds all that one cell can change, and not much more. */
        long aroundCell(Law law, int p, int day) {
            switch (law.sort) {
                case Law.SKILL:
                    return unskilled(p, day, day);
                case Law.REST:
                    return shortRests(law.low, p);
                case Law.HOURS:
                    return hoursAmiss(law, p, Math.max(0, day - law.span + 1), Math.min(day, roster.days - law.span));
                case Law.NEVER:
                    return matches(law.positions, p);
                case Law.WHOLE:
                    return noWord(law.positions, p);
                case Law.FAIR:
                    return unfairness(law.letter);
                default:
                    return coverAmiss(law, day);
            }
        }

        long coverAmiss(Law law, int day) {
            return outside(roster.timesOn[day][law.letter], law);
        }

        private long outside(long value, Law law) {
            return Math.max(0, law.low - value) + Math.max(0, value - law.high);
        }

        private long unfairness(int letter) {
            int most = roster.timesOf[0][letter];
            int least = most;
            for (int p = 1; p < roster.people; p++) {
                most = Math.max(most, roster.timesOf[p][letter]);
                least = Math.min(least, roster.timesOf[p][letter]);
            }
            return most - least;
        }

        private long unskilled(int p, int from, int to) {
            long found = 0;
            for (int day = from; day <= to; day++) {
                int letter = roster.letterOf(p, day);
                if (letter != OFF && (roster.skills[p] >> roster.needs[letter] & 1) == 0) {
                    found++;
                }
            }
            return found;
        }

        private long shortRests(int least, int p) {
            int[] row = roster.rows[p];
            long found = 0;
            int former = -1;
            for (int i = 0; i < row.length; i++) {
                if (row[i] == OFF) {
                    continue;
                }
                if (i >= PAST_DAYS && former >= 0 && roster.gap(row[former], row[i], i - former) < least) {
                    found++;
                }
                former = i;
            }
            return found;
        }

        /** Of the windows that begin on these days. */
        private long hoursAmiss(Law law, int p, int first, int last) {
            long inWindow = roster.minutesBetween(p, first, first + law.span - 1);
            long sum = outside(inWindow, law);
            for (int begin = first + 1; begin <= last; begin++) {
                inWindow += roster.lengths[roster.letterOf(p, begin + law.span - 1)]
                        - roster.lengths[roster.letterOf(p, begin - 1)];
                sum += outside(inWindow, law);
            }
            return sum;
        }

        private long matches(Positions pattern, int p) {
            int[] row = roster.rows[p];
            long found = 0;
            int set = 0;
            for (int i = 0; i < row.length; i++) {
                set = (pattern.after(set) | pattern.first) & pattern.takers[row[i]];
                if (i >= PAST_DAYS && (set & pattern.last) != 0) {
                    found++;
                }
            }
            return found;
        }

        private long noWord(Positions pattern, int p) {
            int[] row = roster.rows[p];
            int ahead = pattern.first;
            int set = 0;
            for (int i = PAST_DAYS; i < row.length; i++) {
                set = ahead & pattern.takers[row[i]];
                ahead = pattern.after(set);
            }
            return (set & pattern.last) != 0 ? 0 : 1;
        }
    }

    /** What cells had before they were put, the newest ones; a ring, so that the oldest go. */
    private static final class History {
        private static final int MOST = 200;

        private final int[] people = new int[MOST];
        private final int[] days = new int[MOST];
        private final int[] letters = new int[MOST];
        private int newest;
        private int kept;

        void keep(int p, int day, int letter) {
            newest = (newest + 1) % MOST;
            people[newest] = p;
            days[newest] = day;
            letters[newest] = letter;
            kept = Math.min(MOST, kept + 1);
        }

        void dropNewest() {
            newest = (newest + MOST - 1) % MOST;
            kept--;
        }
    }

    /** The least automaton of a pattern; it has no states as long as it is not made. */
    private static final class Automaton {
        /** A state's row: where its nine letters lead, and whether a row may end in it. */
        static final int WIDTH = LETTERS + 1;

        private static final int FEW_STATES = 12;

        private int[] table = new int[0];
        private int states;

        /** The table grows by doubling and is never given back: a run's room has to hold all of them. */
        void reserve(int wanted) {
            if (wanted * WIDTH > table.length) {
                int room = Math.max(Math.max(FEW_STATES, wanted), 2 * table.length / WIDTH);
                table = new int[Math.min(AutomatonMaker.MOST_STATES, room) * WIDTH];
            }
        }

        int entry(int state, int letter) {
            int i = state * WIDTH + letter;
            return i >= 0 && i < table.length ? table[i] : 0;
        }

        /** Two least automata of the same words are the same, as their states are numbered by one rule. */
        boolean equalTo(Automaton other) {
            if (states != other.states) {
                return false;
            }
            for (int i = 0; i < states * WIDTH; i++) {
                if (table[i] != other.table[i]) {
                    return false;
                }
            }
            return true;
        }

        /**
         * The states are numbered in the order of the first words that lead to them, shorter ones
         * first: so the lowest state in which a row may end has the word, read back from it.
         */
        int letterOfShortest(int i) {
            int end = 0;
            while (end < states - 1 && entry(end, ENDS) == 0) {
                end++;
            }
            int length = 0;
            for (int state = end; state > 0 && length < states; state = firstWayTo(state) / WIDTH) {
                length++;
            }
            if (i >= length) {
                return NO;
            }
            int way = firstWayTo(end);
            for (int back = length - 1; back > i; back--) {
                way = firstWayTo(way / WIDTH);
            }
            return way % WIDTH;
        }

        private int firstWayTo(int state) {
            for (int i = 0; i < states * WIDTH; i++) {
                if (table[i] == state && i % WIDTH < LETTERS) {
                    return i;
                }
            }
            return 0;
        }
    }

    /** Makes least automata, and counts their words; its rows are made once for all of them. */
    private static final class AutomatonMaker {
        /** Each set of places, and the begin. */
        static final int MOST_STATES = (1 << Positions.MOST) + 1;

        private static final int BEGIN = 1 << Positions.MOST;
        private static final int SLOTS = 2048;

        /** The states of the first automaton, in the order in which they are come to: sets of places. */
        private final int[] sets = new int[MOST_STATES];
        /** By set the number of its state and 1, or 0. */
        private final int[] numbers = new int[MOST_STATES];
        private final int[] targets = new int[MOST_STATES * LETTERS];
        /** A hash table of one state of each part, and 1; 0 where there is none. */
        private final int[] slots = new int[SLOTS];
        private int[] parts = new int[MOST_STATES];
        private int[] finerParts = new int[MOST_STATES];
        private long[] ways = new long[MOST_STATES];
        private long[] longerWays = new long[MOST_STATES];
        private int states;

        void make(Positions pattern, Automaton into) {
            explore(pattern);
            int count = partByEnds(pattern);
            for (int round = 0; round < states; round++) {
                int finer = refine();
                if (finer == count) {
                    break;
                }
                count = finer;
            }
            copyParts(pattern, into, count);
        }

        private void explore(Positions pattern) {
            for (int i = 0; i < MOST_STATES; i++) {
                numbers[i] = 0;
            }
            states = 0;
            numberOf(BEGIN);
            for (int s = 0; s < states && s < MOST_STATES; s++) {
                int ahead = sets[s] == BEGIN ? pattern.first : pattern.after(sets[s]);
                for (int letter = 0; letter < LETTERS; letter++) {
                    targets[s * LETTERS + letter] = numberOf(ahead & pattern.takers[letter]);
                }
            }
        }

        private int numberOf(int set) {
            if (numbers[set] == 0 && states < MOST_STATES) {
                sets[states] = set;
                states++;
                numbers[set] = states;
            }
            return Math.max(0, numbers[set] - 1);
        }

        private boolean mayEnd(Positions pattern, int s) {
            return sets[s] == BEGIN ? pattern.takesEmpty : (sets[s] & pattern.last) != 0;
        }

        /**
         * Here as in refine() parts are numbered as their first states come: as those stand in the
         * order in which they are come to, the parts in the end have the numbers that are asked for.
         */
        private int partByEnds(Positions pattern) {
            int count = 1;
            for (int s = 0; s < states; s++) {
                parts[s] = mayEnd(pattern, s) == mayEnd(pattern, 0) ? 0 : 1;
                count = Math.max(count, parts[s] + 1);
            }
            return count;
        }

        /** Parts states that lead to different parts by one letter; how many parts there are then. */
        private int refine() {
            for (int i = 0; i < SLOTS; i++) {
                slots[i] = 0;
            }
            int count = 0;
            for (int s = 0; s < states; s++) {
                int slot = slotOf(s);
                if (slots[slot] == 0) {
                    slots[slot] = s + 1;
                    finerParts[s] = count;
                    count++;
                } else {
                    finerParts[s] = finerParts[slots[slot] - 1];
                }
            }
            int[] coarser = parts;
            parts = finerParts;
            finerParts = coarser;
            return count;
        }

        private int slotOf(int s) {
            int hash = parts[s];
            for (int letter = 0; letter < LETTERS; letter++) {
                hash = hash * 31 + parts[targets[s * LETTERS + letter]];
            }
            int slot = (hash ^ hash >>> 11) & SLOTS - 1;
            for (int i = 0; i < SLOTS && slots[slot] != 0 && !together(slots[slot] - 1, s); i++) {
                slot = slot + 1 & SLOTS - 1;
            }
            return slot;
        }

        private boolean together(int a, int b) {
            boolean same = parts[a] == parts[b];
            for (int letter = 0; letter < LETTERS && same; letter++) {
                same = parts[targets[a * LETTERS + letter]] == parts[targets[b * LETTERS + letter]];
            }
            return same;
        }

        private void copyParts(Positions pattern, Automaton into, int count) {
            into.reserve(count);
            int made = 0;
            for (int s = 0; s < states && made < count; s++) {
                if (parts[s] != made) {
                    continue;
                }
                for (int letter = 0; letter < LETTERS; letter++) {
                    into.table[made * Automaton.WIDTH + letter] = parts[targets[s * LETTERS + letter]];
                }
                into.table[made * Automaton.WIDTH + ENDS] = mayEnd(pattern, s) ? 1 : 0;
                made++;
            }
            into.states = made;
        }

        long wordsOf(Automaton automaton, int n) {
            int count = Math.min(MOST_STATES, automaton.states);
            for (int s = 0; s < count; s++) {
                ways[s] = automaton.entry(s, ENDS);
            }
            for (int round = 0; round < n; round++) {
                for (int s = 0; s < count; s++) {
                    long sum = 0;
                    for (int letter = 0; letter < LETTERS; letter++) {
                        sum += ways[automaton.entry(s, letter)];
                    }
                    longerWays[s] = sum;
                }
                long[] shorter = ways;
                ways = longerWays;
                longerWays = shorter;
            }
            return ways[0];
        }
    }
}
