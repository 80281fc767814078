/** Each sentence of promises 1 to 17 and 23 that names an edge, by itself; what is refused has RefusedTest. */
public final class CallEdgesTest {
    private static final int BAD = Check.BAD, NO = Check.NO, FULL = Check.FULL;
    private static final int LOW = Check.LOW, HIGH = Check.HIGH;

    public static void main(String[] args) {
        nearestNumbers();
        allAtFirst();
        shiftsAtFirst();
        peopleAtFirst();
        oneToEightBytes();
        lowestFirst();
        fullAt1500();
        inPlaceOfAll();
        nothingOfFormerPatterns();
        theyStayThen();
        placeOfLatest();
        shiftEnds();
        shiftFromNowOn();
        skillBits();
        pastDays();
        wishInPlace();
        wishNoneAnyMore();
        wishEnds();
        noSuchCell();
        putOffAndShifts();
        changeChangesNothing();
        undoTwoHundred();
        undoNone();
        undoOfNothingChanged();
        undoSteps();
        undoOverReadAndRest();
        bestFirstOfSeveral();
        descendUpToThree();
        descendFirstOfSeveral();
        descendNone();
        fairAlone();
        brokenOfWhom();
        minutesFromTo();
        countsOfNone();
        countsOfMost();
        Check.end();
    }

    private static void due(String what, long got, long want) {
        Check.due(what, got, want);
    }

    // ---- promise 1

    private static void nearestNumbers() {
        Check.sentence("people 1 .. 8, days 1 .. 21: of numbers beyond the nearest ones");
        int[] numbers = {LOW, -1, 0, 1, 2, 7, 8, 9, 20, 21, 22, HIGH};
        for (int people : numbers) {
            for (int days : numbers) {
                RosterRules x = new RosterRules(people, days);
                int lastPerson = Math.max(1, Math.min(8, people)) - 1;
                int lastDay = Math.max(1, Math.min(21, days)) - 1;
                String size = "(" + people + ", " + days + ")";
                due("last cell of " + size, x.at(lastPerson, lastDay), -1);
                due("one person more in " + size, x.at(lastPerson + 1, 0), -9);
                due("one day more in " + size, x.at(0, lastDay + 1), -9);
                due("put there in " + size, x.put(lastPerson, lastDay, 7), 0);
                due("all minutes of " + size, x.minutes(lastPerson, 0, lastDay), 480);
            }
        }
    }

    private static void allAtFirst() {
        Check.sentence("All CELLS are OFF, no laws, no WISHES");
        RosterRules x = new RosterRules(8, 21);
        for (int p = 0; p < 8; p++) {
            for (int day = 0; day < 21; day++) {
                due("cell", x.at(p, day), -1);
            }
            due("minutes", x.minutes(p, 0, 20), 0);
        }
        for (int what = 0; what <= 4; what++) {
            due("count " + what, x.count(what), 0);
        }
        due("law", x.law(0, 0), BAD);
        due("score", x.score(), 0);
        due("change of any", x.change(7, 20, 7), 0);
    }

    private static void shiftsAtFirst() {
        Check.sentence("480, 480 and 0 at first, all");
        RosterRules x = Check.with(1, 2, "rest 960 1;rest 961 1;");
        for (int k = 0; k <= 7; k++) {
            x.put(0, 0, k);
            due("minutes of shift " + k, x.minutes(0, 0, 0), 480);
            for (int other = 0; other <= 7; other++) {
                x.put(0, 1, other);
                due("960 minutes between " + k + " and " + other, x.broken(0, 0), 0);
                due("not 961 between " + k + " and " + other, x.broken(1, 0), 1);
            }
        }
        beginOfEach();
        RosterRules y = Check.with(2, 1, "skill 1;");
        y.person(0, 1);
        y.person(1, 1022);
        for (int k = 0; k <= 7; k++) {
            y.put(0, 0, k);
            y.put(1, 0, k);
            due("skill 0 of shift " + k, y.broken(0, 0), 0);
            due("none but 0 of shift " + k, y.broken(0, 1), 1);
        }
    }

    private static void peopleAtFirst() {
        Check.sentence("A person has SKILLS (all of 0 .. 9 at first)");
        for (int p = 0; p < 8; p++) {
            RosterRules x = Check.with(8, 1, "skill 1;");
            x.put(p, 0, p);
            for (int skill = 0; skill <= 9; skill++) {
                x.shift(p, 0, 1, skill);
                due("skill " + skill + " of person " + p, x.broken(0, p), 0);
            }
        }
        Check.sentence("what was on each of the 7 days before day 0 (OFF at first)");
        RosterRules y = Check.with(8, 1, "never \"-{8,8}\" 1;");
        for (int p = 0; p < 8; p++) {
            due("OFF all the days of " + p, y.broken(0, p), 1);
            for (int i = 1; i <= 7; i++) {
                due("PAST of " + p, y.past(p, i, -1), -1);
            }
        }
    }

    /** A shift that is told to begin at 480 stands for what the others begin at. */
    private static void beginOfEach() {
        for (int k = 1; k <= 7; k++) {
            RosterRules x = Check.with(1, 2, "rest 960 1;rest 961 1;");
            x.shift(0, 480, 480, 0);
            Check.row(x, 0, "a" + (char) ('a' + k));
            due("to the begin of " + k, x.broken(0, 0), 0);
            due("and no later", x.broken(1, 0), 1);
        }
    }

    // ---- promises 2 to 4

    private static void oneToEightBytes() {
        Check.sentence("n bytes (1 .. 8) of a number");
        for (int n = 1; n <= 8; n++) {
            RosterRules x = new RosterRules(1, 1);
            due("feed of " + n, x.feed(n, -1L), n);
            due("as many again", x.feed(n, 0L), 2 * n);
            due("on the tape", x.count(1), 2 * n);
        }
        RosterRules x = new RosterRules(1, 1);
        for (int n : new int[] {0, -1, 9, 16, LOW, HIGH}) {
            due("feed of " + n, x.feed(n, 0x2020202020202020L), BAD);
            due("nothing came", x.count(1), 0);
        }
    }

    private static void lowestFirst() {
        Check.sentence("its lowest ones first, come behind THE TAPE: how many it has");
        for (int n = 1; n <= 8; n++) {
            for (int at = 0; at < n; at++) {
                RosterRules x = new RosterRules(1, 1);
                long blanks = 0x2020202020202020L;
                due("a blank", x.feed(1, blanks), 1);
                long other = n == 8 ? 0 : -1L << 8 * n;
                due("the bytes", x.feed(n, blanks & ~(255L << 8 * at) & ~other | 128L << 8 * at | other), n + 1);
                due("no token", x.read(), -11);
                due("byte " + at + " of " + n, x.place(), at + 1);
            }
            RosterRules y = new RosterRules(1, 1);
            due("blanks", y.feed(n, 0x2020202020202020L), n);
            due("no byte more than " + n, y.read(), 0);
        }
    }

    private static void fullAt1500() {
        Check.sentence("FULL: there would be more than 1500");
        for (int n = 1; n <= 8; n++) {
            RosterRules x = new RosterRules(1, 1);
            Check.feed(x, " ".repeat(1500 - n));
            due("one too many", n == 8 ? FULL : x.feed(n + 1, 0), FULL);
            due("nothing came", x.count(1), 1500 - n);
            due("BAD first", x.feed(9, 0), BAD);
            due("just as many", x.feed(n, 0x2020202020202020L), 1500);
            for (int more = 1; more <= 8; more++) {
                due(more + " more", x.feed(more, 0), FULL);
            }
            due("nothing came", x.count(1), 1500);
            due("blanks alone", x.read(), 0);
            due("empty again", x.feed(n, 0), n);
        }
    }

    private static void inPlaceOfAll() {
        Check.sentence("THE TAPE is read as laws, in place of all: how many");
        RosterRules x = Check.with(2, 2, "cover a 1 1 1;".repeat(16));
        due("sixteen", x.score(), 32);
        due("one for sixteen", Check.read(x, "never \"a\" 5;"), 1);
        due("no other", x.law(1, 0), BAD);
        due("score", x.score(), 0);
        due("states", x.law(0, 3), 3);
        due("another pattern in its place", Check.read(x, "never \"aa\" 5;"), 1);
        due("states", x.law(0, 3), 4);
        due("and another one", Check.read(x, "never \"a*\" 5;"), 1);
        due("states", x.law(0, 3), 2);
        due("without a pattern", Check.read(x, "fair a 5;"), 1);
        due("states", x.law(0, 3), NO);
        due("none", x.read(), 0);
        due("laws", x.count(0), 0);
    }

    private static void nothingOfFormerPatterns() {
        Check.sentence("THE TAPE is read as laws, in place of all");
        String[] patterns = {"-", "(.a)*", "a", "a*", "ab", "abcdefgh-a", "[^-]", "h", ".*a.{3,3}", "b", ".{1,9}", "aa|bb"};
        RosterRules x = new RosterRules(2, 2);
        for (int i = 0; i < 2 * patterns.length; i++) {
            String text = "never \"" + patterns[i % patterns.length] + "\" 1;";
            RosterRules fresh = Check.with(2, 2, text);
            due(text, Check.read(x, text), 1);
            for (int n = 0; n <= 4; n++) {
                due("words of " + n + " of " + text, x.words(0, n), fresh.words(0, n));
            }
            due("states of " + text, x.law(0, 3), fresh.law(0, 3));
            due("broken of " + text, x.broken(0, -1), fresh.broken(0, -1));
            due("PLACES of " + text, x.law(0, 4), fresh.law(0, 4));
        }
    }

    private static void theyStayThen() {
        Check.sentence("-10 less the FAULT: they stay then");
        String[] faulty = {"never \"ba*\" 3;@", "never \"ba*\" 3;;", "skill 1;".repeat(17), "whole \"b\" 1;hours 1 2 3 1001;"};
        for (int i = 0; i < faulty.length; i++) {
            RosterRules x = Check.with(2, 4, "never \"a\" 5;hours 10 20 2 7;");
            x.put(0, 0, 0);
            long score = x.score();
            due(faulty[i], Check.read(x, faulty[i]), -11 - i);
            due("laws", x.count(0), 2);
            due("a pattern", x.law(0, 3), 3);
            due("its word", x.word(0, 0), 1);
            due("its weight", x.law(0, 1), 5);
            due("its place", x.law(0, 2), 0);
            due("its broken", x.broken(0, 0), 1);
            due("the other one's sort", x.law(1, 0), 2);
            due("its place", x.law(1, 2), 12);
            due("score", x.score(), score);
            due("the cell stays", x.at(0, 0), 0);
            due("and may be undone", x.undo(), 0);
        }
        RosterRules y = new RosterRules(1, 1);
        due("a fault before any law", Check.read(y, "skill"), -12);
        due("no law stays no law", y.count(0), 0);
    }

    private static void placeOfLatest() {
        Check.sentence("The place of the FAULT of the latest read(); NO when it had none, or before one");
        RosterRules x = new RosterRules(1, 1);
        due("before one", x.place(), NO);
        x.feed(1, '@');
        due("before one, with a tape", x.place(), NO);
        due("a fault at 0", x.read(), -11);
        due("its place", x.place(), 0);
        due("asked again", x.place(), 0);
        due("another fault", Check.read(x, "skill 1;skill"), -12);
        due("its place", x.place(), 13);
        due("a refused call", x.feed(9, 0), BAD);
        due("no read()", x.place(), 13);
        due("a good one", Check.read(x, "skill 1;"), 1);
        due("none", x.place(), NO);
        due("a fault again", Check.read(x, " ;"), -12);
        due("its place", x.place(), 1);
        due("a text of nothing is a good one", x.read(), 0);
        due("none", x.place(), NO);
    }

    // ---- promises 5 to 8

    private static void shiftEnds() {
        Check.sentence("A shift begins (0 .. 1439), has minutes (1 .. 1440) and a skill (0 .. 9)");
        for (int k : new int[] {0, 7}) {
            for (int begin : new int[] {0, 1439}) {
                for (int minutes : new int[] {1, 1440}) {
                    for (int skill : new int[] {0, 9}) {
                        RosterRules x = Check.with(1, 3, "skill 1;");
                        due("the ends", x.shift(k, begin, minutes, skill), 1);
                        x.put(0, 1, k);
                        due("minutes", x.minutes(0, 0, 2), minutes);
                        x.person(0, 1023 - (1 << skill));
                        due("skill", x.broken(0, 0), 1);
                        restAround(x, k, begin, minutes);
                    }
                }
            }
        }
    }

    /** The shift k on day 1, others that begin at 480 and have 480 minutes on days 0 and 2. */
    private static void restAround(RosterRules x, int k, int begin, int minutes) {
        x.put(0, 0, 3);
        x.put(0, 2, 3);
        int before = 1440 + begin - 960;
        int behind = 1440 + 480 - begin - minutes;
        for (int gap : new int[] {before, behind}) {
            if (gap >= 0) {
                int due = (before < gap ? 1 : 0) + (behind < gap ? 1 : 0);
                due("read", Check.read(x, "rest " + gap + " 1;rest " + (gap + 1) + " 1;"), 2);
                due("at the gap of " + k, x.broken(0, 0), due);
                due("one more than the gap of " + k, x.broken(1, 0), due + (before == behind ? 2 : 1));
            }
        }
    }

    private static void shiftFromNowOn() {
        Check.sentence("from now on: 1");
        RosterRules x = Check.with(1, 1, "hours 0 0 1 1;");
        x.put(0, 0, 2);
        due("told", x.shift(2, 0, 7, 0), 1);
        due("also of a cell that is there", x.score(), 7);
        due("told again", x.shift(2, 0, 9, 0), 1);
        due("as told last", x.score(), 9);
        due("another one", x.shift(3, 0, 1, 0), 1);
        due("is not this one", x.score(), 9);
        due("put back", x.undo(), 0);
        due("nothing", x.score(), 0);
    }

    private static void skillBits() {
        Check.sentence("A person has these SKILLS (bits 0 .. 9): 1");
        for (int bit = 0; bit <= 9; bit++) {
            RosterRules x = Check.with(2, 1, "skill 1;");
            x.put(0, 0, 0);
            due("told", x.person(0, 1 << bit), 1);
            for (int skill = 0; skill <= 9; skill++) {
                x.shift(0, 0, 1, skill);
                due("bit " + bit + " for skill " + skill, x.broken(0, 0), skill == bit ? 0 : 1);
            }
            due("none", x.person(0, 0), 1);
            due("lacks", x.broken(0, 0), 1);
            due("all", x.person(0, 1023), 1);
            due("has", x.broken(0, 0), 0);
        }
        Check.sentence("BAD: no such person; a bit above them");
        RosterRules x = Check.with(1, 1, "skill 1;");
        x.put(0, 0, 0);
        for (int bit = 10; bit <= 31; bit++) {
            due("bit " + bit, x.person(0, 1 << bit), BAD);
            due("and all below 10", x.person(0, 1 << bit | 1023), BAD);
        }
        due("nothing changed", x.broken(0, 0), 0);
    }

    private static void pastDays() {
        Check.sentence("i days (1 .. 7) before day 0: a shift, or -1 OFF: what it was");
        for (int i = 1; i <= 7; i++) {
            RosterRules x = Check.with(2, 1, "never \"h" + "-".repeat(i - 1) + "a\" 1;");
            x.put(0, 0, 0);
            due("OFF at first", x.past(0, i, 7), -1);
            due(i + " days before", x.broken(0, -1), 1);
            due("what it was", x.past(0, i, 0), 7);
            due("no more", x.broken(0, -1), 0);
            due("what it was", x.past(0, i, -1), 0);
            due("what it was", x.past(0, i, -1), -1);
            due("of the other", x.past(1, i, 3), -1);
            for (int other = 1; other <= 7; other++) {
                due("the other days", x.past(0, other, -1), -1);
            }
        }
        Check.sentence("BAD: -9");
        RosterRules x = new RosterRules(1, 1);
        for (int i : new int[] {0, 8, -1, -7, LOW, HIGH}) {
            due(i + " days before", x.past(0, i, 0), -9);
        }
    }

    private static void wishInPlace() {
        Check.sentence("A WISH of a person and day, in place of one there");
        RosterRules x = new RosterRules(2, 2);
        due("one", x.wish(0, 0, 3, 10), 1);
        due("another one there", x.wish(0, 0, 4, 100), 1);
        due("still one", x.count(3), 1);
        due("its weight alone", x.score(), 100);
        due("its shift alone", x.change(0, 0, 3), 0);
        due("its shift", x.change(0, 0, 4), -100);
        due("one of another day", x.wish(0, 1, 4, 1), 1);
        due("one of another person", x.wish(1, 0, 4, 1), 1);
        due("three", x.count(3), 3);
        due("all of them", x.score(), 102);
        due("the same once more", x.wish(0, 0, 4, 100), 1);
        due("three still", x.count(3), 3);
    }

    private static void wishNoneAnyMore() {
        Check.sentence("(0: none any more)");
        RosterRules x = new RosterRules(1, 2);
        due("none where none is", x.wish(0, 0, 3, 0), 1);
        due("none", x.count(3), 0);
        x.wish(0, 0, 3, 10);
        x.wish(0, 1, 3, 5);
        due("none any more, by another shift", x.wish(0, 0, -1, 0), 1);
        due("one is left", x.count(3), 1);
        due("it costs", x.score(), 5);
        due("none any more, once again", x.wish(0, 0, 3, 0), 1);
        due("one is left", x.count(3), 1);
        due("one anew", x.wish(0, 0, 2, 1), 1);
        due("two", x.count(3), 2);
        due("both cost", x.score(), 6);
    }

    private static void wishEnds() {
        Check.sentence("weight 0 .. 1000 (0: none any more); shift -1: OFF");
        for (int shift : new int[] {-1, 0, 7}) {
            for (int weight : new int[] {0, 1, 999, 1000}) {
                RosterRules x = new RosterRules(8, 21);
                due("a wish", x.wish(7, 20, shift, weight), 1);
                due("how many", x.count(3), weight == 0 ? 0 : 1);
                due("met by it", x.change(7, 20, shift), shift == -1 ? 0 : -weight);
                due("unmet by another", x.put(7, 20, 3), shift == -1 ? weight : 0);
            }
            for (int weight : new int[] {-1, 1001, LOW, HIGH}) {
                due("weight " + weight, new RosterRules(1, 1).wish(0, 0, shift, weight), BAD);
            }
        }
    }

    // ---- promises 9 to 14

    private static void noSuchCell() {
        Check.sentence("2^62: there is no such");
        RosterRules x = new RosterRules(2, 3);
        int[][] none = {{-1, 0, 0}, {2, 0, 0}, {0, -1, 0}, {0, 3, 0}, {0, -7, 0}, {0, 0, -2}, {0, 0, 8}, {2, 3, 8},
            {LOW, 0, 0}, {HIGH, 0, 0}, {0, LOW, 0}, {0, HIGH, 0}, {0, 0, LOW}, {0, 0, HIGH}};
        for (int[] n : none) {
            due("put", x.put(n[0], n[1], n[2]), 4611686018427387904L);
            due("change", x.change(n[0], n[1], n[2]), 4611686018427387904L);
        }
        due("no put", x.count(4), 0);
        due("no cell", x.count(2), 0);
    }

    private static void putOffAndShifts() {
        Check.sentence("A CELL becomes a shift, or OFF (-1): by how much THE SCORE has changed");
        RosterRules x = Check.with(2, 3, "hours 0 0 1 1;");
        for (int shift = 0; shift <= 7; shift++) {
            x.shift(shift, 0, 100 + shift, 0);
        }
        for (int shift = 0; shift <= 7; shift++) {
            due("a shift", x.put(1, 2, shift), 100 + shift);
            due("at", x.at(1, 2), shift);
            due("score", x.score(), 100 + shift);
            due("once more", x.put(1, 2, shift), 0);
            due("OFF", x.put(1, 2, -1), -100 - shift);
            due("at", x.at(1, 2), -1);
            due("OFF once more", x.put(1, 2, -1), 0);
        }
        due("nothing elsewhere", x.at(0, 2), -1);
    }

    private static void changeChangesNothing() {
        Check.sentence("As put(), but nothing changes");
        String text = "skill 1;rest 700 2;hours 400 900 2 3;never \"ab|b-\" 4;whole \"[ab]*\" 5;fair a 6;cover b 1 1 7;";
        for (int shift = -1; shift <= 7; shift++) {
            for (int day = 0; day < 3; day++) {
                RosterRules x = Check.with(2, 3, text);
                Check.row(x, 0, "ab-");
                x.person(0, 1022);
                x.wish(0, 1, 2, 50);
                long score = x.score();
                int was = x.at(0, day);
                long by = x.change(0, day, shift);
                due("score", x.score(), score);
                due("cell", x.at(0, day), was);
                due("cells", x.count(2), 2);
                due("puts", x.count(4), 3);
                due("minutes", x.minutes(0, 0, 2), 960);
                due("asked again", x.change(0, day, shift), by);
                due("as put()", x.put(0, day, shift), by);
                due("the score then", x.score(), score + by);
            }
        }
    }

    private static void undoTwoHundred() {
        Check.sentence("200 at most are kept, the oldest go");
        for (int puts : new int[] {199, 200, 201, 202, 230}) {
            RosterRules x = new RosterRules(1, 21);
            for (int i = 0; i < puts; i++) {
                x.put(0, i % 21, i / 21 % 8);
            }
            int kept = Math.min(200, puts);
            due("kept of " + puts, x.count(4), kept);
            for (int left = kept - 1; left >= 0; left--) {
                due("left of " + puts, x.undo(), left);
            }
            due("none", x.undo(), NO);
            for (int day = 0; day < 21; day++) {
                int gone = puts - kept;
                due("day " + day + " of " + puts, x.at(0, day), day < gone % 21 ? gone / 21 : gone / 21 - 1);
            }
        }
    }

    private static void undoNone() {
        Check.sentence("how many are left. NO: there is none");
        RosterRules x = new RosterRules(2, 2);
        due("none", x.undo(), NO);
        x.put(0, 0, 1);
        x.put(1, 1, 2);
        x.put(0, 0, 3);
        due("two are left", x.undo(), 2);
        due("what was there", x.at(0, 0), 1);
        due("one is left", x.undo(), 1);
        due("OFF", x.at(1, 1), -1);
        due("none is left", x.undo(), 0);
        due("OFF", x.at(0, 0), -1);
        due("none", x.undo(), NO);
        due("none still", x.undo(), NO);
        x.put(0, 0, 7);
        due("one anew", x.undo(), 0);
        due("OFF", x.at(0, 0), -1);
        due("a refused put", x.put(2, 0, 0), Check.NO_SUCH);
        due("a change", x.change(0, 0, 5), 0);
        due("are none", x.undo(), NO);
    }

    private static void undoOfNothingChanged() {
        Check.sentence("(One that changed nothing counts, too.)");
        RosterRules x = new RosterRules(1, 1);
        x.put(0, 0, -1);
        due("OFF for OFF", x.count(4), 1);
        x.put(0, 0, 4);
        x.put(0, 0, 4);
        due("e for e", x.count(4), 3);
        due("undone", x.undo(), 2);
        due("e still", x.at(0, 0), 4);
        due("undone", x.undo(), 1);
        due("OFF", x.at(0, 0), -1);
        due("undone", x.undo(), 0);
        due("OFF still", x.at(0, 0), -1);
        due("none", x.undo(), NO);
    }

    private static void undoSteps() {
        Check.sentence("The latest put(), or step of descend(), that is not undone yet");
        RosterRules x = Check.with(1, 21, "cover a 1 1 1;");
        due("three steps", x.descend(3), 3);
        due("are three", x.count(4), 3);
        x.put(0, 0, 5);
        due("the put", x.undo(), 3);
        due("what the step had put", x.at(0, 0), 0);
        due("the last step", x.undo(), 2);
        due("OFF", x.at(0, 2), -1);
        due("the step before stays", x.at(0, 1), 0);
        due("no step", x.descend(0), 0);
        due("counts nothing", x.count(4), 2);
        for (int i = 0; i < 199; i++) {
            x.put(0, 20, 0);
        }
        due("kept", x.count(4), 200);
        due("steps are kept as puts are", x.descend(3), 3);
        due("kept", x.count(4), 200);
        due("undone", x.undo(), 199);
        due("the last step's day", x.at(0, 4), -1);
    }

    private static void undoOverReadAndRest() {
        Check.sentence("is undone: how many are left");
        RosterRules x = Check.with(1, 2, "cover a 1 1 1;");
        x.put(0, 0, 0);
        x.past(0, 1, 3);
        x.wish(0, 0, 2, 9);
        x.shift(0, 0, 7, 3);
        due("other laws", Check.read(x, "cover b 1 1 100;"), 1);
        due("undone", x.undo(), 0);
        due("the cell alone", x.at(0, 0), -1);
        due("the laws stay", x.score(), 209);
        due("the PAST stays", x.past(0, 1, 3), 3);
    }

    private static void bestFirstOfSeveral() {
        Check.sentence("Of -1 OFF, 0 .. 7 that by which THE SCORE would be least in a CELL, of several the first");
        RosterRules none = new RosterRules(1, 1);
        for (int shift = -1; shift <= 7; shift++) {
            none.put(0, 0, shift);
            due("all alike", none.best(0, 0), -1);
        }
        for (int first = 0; first <= 7; first++) {
            for (int second = first; second <= 7; second++) {
                RosterRules x = Check.with(2, 2, "hours 100 100 1 1;");
                x.shift(first, 0, 100, 0);
                x.shift(second, 0, 100, 0);
                x.put(1, 1, second);
                due("the first of " + first + " and " + second, x.best(1, 1), first);
                due("elsewhere", x.best(0, 0), first);
                due("nothing changes", x.at(1, 1), second);
                due("no put", x.count(4), 1);
            }
        }
        RosterRules y = Check.with(1, 1, "never \"[^-]\" 5;");
        y.put(0, 0, 7);
        due("OFF", y.best(0, 0), -1);
        y.wish(0, 0, 7, 5);
        due("of OFF and h OFF", y.best(0, 0), -1);
        y.wish(0, 0, 7, 6);
        due("h", y.best(0, 0), 7);
    }

    private static void descendUpToThree() {
        Check.sentence("Up to n steps (0 .. 3)");
        for (int n = 0; n <= 3; n++) {
            for (int possible = 1; possible <= 4; possible++) {
                RosterRules x = Check.with(1, possible, "cover a 1 1 1;");
                int steps = Math.min(n, possible);
                due(n + " of " + possible, x.descend(n), steps);
                due("cells", x.count(2), steps);
                due("puts", x.count(4), steps);
                due("score", x.score(), possible - steps);
            }
        }
        RosterRules x = Check.with(1, 4, "cover a 1 1 1;");
        for (int n : new int[] {-1, 4, 5, LOW, HIGH}) {
            due(n + " steps", x.descend(n), BAD);
            due("no step", x.count(2), 0);
        }
    }

    private static void descendFirstOfSeveral() {
        Check.sentence("of several the first one, by person, day, and -1, 0 .. 7");
        RosterRules x = Check.with(2, 2, "hours 480 480 1 1;");
        for (int[] cell : new int[][] {{0, 0}, {0, 1}, {1, 0}, {1, 1}}) {
            due("a step", x.descend(1), 1);
            due("person " + cell[0] + ", day " + cell[1], x.at(cell[0], cell[1]), 0);
        }
        due("no more", x.descend(1), 0);
        RosterRules y = Check.with(2, 2, "cover c 1 1 1;cover d 1 1 1;cover e 1 1 2;");
        due("the one that falls most", y.descend(1), 1);
        due("e", y.at(0, 0), 4);
        due("again", y.descend(1), 1);
        due("e", y.at(0, 1), 4);
        due("then the first shift", y.descend(1), 1);
        due("c", y.at(1, 0), 2);
        RosterRules z = Check.with(1, 2, "never \"[^-]\" 1;never \"[^-a]\" 1;");
        z.put(0, 1, 7);
        due("a step", z.descend(1), 1);
        due("OFF falls most", z.at(0, 1), -1);
        RosterRules w = Check.with(1, 1, "never \"[^-a]\" 1;");
        w.put(0, 0, 7);
        due("a step", w.descend(3), 1);
        due("OFF before a", w.at(0, 0), -1);
        RosterRules v = Check.with(2, 2, "hours 0 0 1 1;");
        v.shift(1, 0, 481, 0);
        Check.row(v, 0, "aa");
        Check.row(v, 1, "ab");
        due("a step", v.descend(1), 1);
        due("the last cell falls most", v.at(1, 1), -1);
    }

    private static void descendNone() {
        Check.sentence("none, when it does not fall");
        RosterRules x = new RosterRules(2, 2);
        due("no law", x.descend(3), 0);
        RosterRules y = Check.with(1, 1, "cover a 1 1 5;never \"a\" 5;");
        due("no change falls, one is even", y.descend(3), 0);
        due("the cell stays", y.at(0, 0), -1);
        due("no put", y.count(4), 0);
        y.wish(0, 0, 0, 1);
        due("by one it falls", y.descend(3), 1);
        due("a", y.at(0, 0), 0);
        RosterRules z = Check.with(1, 2, "whole \"aa\" 5;");
        due("two at once are no step", z.descend(3), 0);
    }

    // ---- promises 15 to 17, 23

    private static void fairAlone() {
        Check.sentence("of fair -1 alone");
        RosterRules x = Check.with(8, 21, "fair a 1;");
        x.put(0, 0, 0);
        due("in all", x.broken(0, -1), 1);
        for (int k : new int[] {0, 1, 7, 8, 20, 21, -2, LOW, HIGH}) {
            due("of " + k, x.broken(0, k), BAD);
        }
    }

    private static void brokenOfWhom() {
        Check.sentence("k = -1 in all; of a person k (skill, rest, hours, never, whole), or a day k (cover)");
        String text = "skill 1;rest 961 1;hours 0 0 1 1;never \"a\" 1;whole \"aa\" 1;cover a 0 0 1;";
        for (int people = 1; people <= 8; people += 7) {
            RosterRules x = Check.with(people, 3, text);
            int last = people - 1;
            x.person(last, 0);
            Check.row(x, last, "aa-");
            long[] due = {2, 1, 960, 2, 1};
            for (int law = 0; law < 5; law++) {
                due("the last person by law " + law, x.broken(law, last), due[law]);
                due("in all by law " + law, x.broken(law, -1), due[law] + (law == 4 ? last : 0));
                due("one beyond by law " + law, x.broken(law, people), BAD);
                due("-2 by law " + law, x.broken(law, -2), BAD);
            }
            due("day 0", x.broken(5, 0), 1);
            due("the last day", x.broken(5, 2), 0);
            due("one beyond", x.broken(5, 3), BAD);
            due("-2", x.broken(5, -2), BAD);
            due("in all", x.broken(5, -1), 2);
        }
    }

    private static void minutesFromTo() {
        Check.sentence("BAD: no such person, day, or to is less than from");
        RosterRules x = new RosterRules(2, 3);
        Check.row(x, 1, "abc");
        Check.before(x, 1, "a");
        for (int shift = 0; shift < 3; shift++) {
            x.shift(shift, 0, shift == 0 ? 1 : shift == 1 ? 10 : 100, 0);
        }
        long[] sums = {1, 11, 111, 10, 110, 100};
        int i = 0;
        for (int from = 0; from < 3; from++) {
            for (int to = from; to < 3; to++) {
                due(from + " .. " + to, x.minutes(1, from, to), sums[i++]);
            }
            for (int to = -1; to < from; to++) {
                due(from + " .. " + to, x.minutes(1, from, to), BAD);
            }
            due(from + " .. 3", x.minutes(1, from, 3), BAD);
        }
        due("-1 .. 2", x.minutes(1, -1, 2), BAD);
        due("3 .. 3", x.minutes(1, 3, 3), BAD);
        due("of another", x.minutes(0, 0, 2), 0);
        due("of none", x.minutes(2, 0, 2), BAD);
        due("of none", x.minutes(-1, 0, 2), BAD);
        due("far", x.minutes(1, LOW, HIGH), BAD);
        due("far", x.minutes(1, HIGH, LOW), BAD);
        RosterRules y = new RosterRules(1, 21);
        y.shift(0, 0, 1440, 0);
        Check.row(y, 0, "a".repeat(21));
        due("the most", y.minutes(0, 0, 20), 21 * 1440);
    }

    private static void countsOfNone() {
        Check.sentence("How many: what = 0 laws, 1 bytes of THE TAPE, 2 CELLS that are not OFF, 3 WISHES, 4 puts that may be undone. BAD");
        RosterRules x = Check.with(2, 2, "skill 1;fair a 1;");
        x.feed(3, 0);
        x.put(1, 1, 3);
        x.wish(0, 0, 0, 1);
        for (int what = 0; what <= 4; what++) {
            due("some of " + what, x.count(what), what == 0 ? 2 : what == 1 ? 3 : 1);
        }
        x.undo();
        x.wish(0, 0, 0, 0);
        x.read();
        due("a fault: the laws stay", x.count(0), 2);
        x.read();
        for (int what = 0; what <= 4; what++) {
            due("none of " + what, x.count(what), 0);
        }
        for (int what : new int[] {-1, 5, 6, LOW, HIGH}) {
            due("BAD", x.count(what), BAD);
        }
    }

    private static void countsOfMost() {
        Check.sentence("How many: what = 0 laws, 1 bytes of THE TAPE, 2 CELLS that are not OFF, 3 WISHES, 4 puts that may be undone");
        RosterRules x = Check.with(8, 21, "skill 1;".repeat(16));
        due("laws", x.count(0), 16);
        Check.feed(x, " ".repeat(1500));
        due("bytes", x.count(1), 1500);
        for (int i = 0; i < 168; i++) {
            x.put(i / 21, i % 21, i % 8);
        }
        due("cells", x.count(2), 168);
        for (int i = 0; i < 32; i++) {
            x.put(7, 20, i % 8);
        }
        due("cells still", x.count(2), 168);
        due("puts", x.count(4), 200);
        x.put(0, 0, -1);
        due("one cell less", x.count(2), 167);
        due("puts still", x.count(4), 200);
        RosterRules y = new RosterRules(8, 21);
        for (int i = 0; i < 168; i++) {
            due("a wish", y.wish(i / 21, i % 21, i % 9 - 1, 1 + i), 1);
        }
        due("wishes", y.count(3), 168);
        y.wish(7, 20, 0, 1000);
        due("wishes still", y.count(3), 168);
        y.wish(7, 20, 0, 0);
        due("one less", y.count(3), 167);
    }
}
