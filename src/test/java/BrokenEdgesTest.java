/** Each sentence under Terms about BROKEN, WISHES and THE SCORE that names an edge, by itself. */
public final class BrokenEdgesTest {
    public static void main(String[] args) {
        skillOfCells();
        restOfMinutes();
        restOfOverlaps();
        restOnADay();
        restWithOffBetween();
        hoursOfOneDay();
        hoursOfAllDays();
        hoursOfEachWindow();
        hoursAtBothEnds();
        neverAtTheEarliest();
        neverOneLetterAtLeast();
        neverUpToADay();
        wholeOfTheDays();
        fairOfOneAlone();
        fairMostLessLeast();
        coverAtBothEnds();
        coverOfNoneAndAll();
        wishesOfCells();
        weightsInTheScore();
        Check.end();
    }

    private static void inAll(String what, RosterRules x, int law, long due) {
        Check.due(what, x.broken(law, -1), due);
    }

    /** Of one law with the weight 1 a put tells what the law's part of the score does. */
    private static void put(String what, RosterRules x, int day, char letter, long due) {
        int shift = letter == '-' ? -1 : letter - 'a';
        Check.due(what + " by change()", x.change(0, day, shift), due);
        Check.due(what + " by put()", x.put(0, day, shift), due);
    }

    private static void skillOfCells() {
        Check.sentence("skill: each CELL with a shift whose SKILL the person has not: 1");
        RosterRules x = Check.with(2, 3, "skill 1;");
        x.person(0, 0);
        inAll("no skills, but all OFF", x, 0, 0);
        Check.before(x, 0, "aaaaaaa");
        inAll("the PAST has no CELLS", x, 0, 0);
        put("day 0", x, 0, 'a', 1);
        put("the last day", x, 2, 'h', 1);
        put("another shift of skill 0", x, 0, 'b', 0);
        put("OFF", x, 0, '-', -1);
        for (int skill = 0; skill <= 9; skill++) {
            x.shift(7, 0, 1, skill);
            x.person(0, 1 << skill);
            inAll("skill " + skill + " alone", x, 0, 0);
            x.person(0, 1023 - (1 << skill));
            inAll("all but skill " + skill, x, 0, 1);
            Check.due("of that person", x.broken(0, 0), 1);
            Check.due("of the other", x.broken(0, 1), 0);
        }
    }

    private static void restOfMinutes() {
        Check.sentence("1, if from the end of the first one to the beginning of the other there are fewer than M minutes");
        String[] texts = {"rest 959 1;", "rest 960 1;", "rest 961 1;", "rest 0 1;", "rest 10000 1;"};
        int[] due = {0, 0, 1, 0, 1};
        for (int i = 0; i < texts.length; i++) {
            RosterRules x = Check.with(1, 3, texts[i]);
            put("the first", x, 0, 'a', 0);
            put(texts[i] + " of 960 minutes", x, 1, 'b', due[i]);
            inAll(texts[i] + " of 960 minutes", x, 0, due[i]);
        }
        RosterRules x = Check.with(1, 21, "rest 10000 1;");
        put("the first", x, 0, 'a', 0);
        put("11040 minutes, eight days later", x, 8, 'a', 0);
        put("OFF again", x, 8, '-', 0);
        put("9600 minutes, seven days later", x, 7, 'a', 1);
        put("OFF again", x, 7, '-', -1);
        x.shift(0, 480, 80, 0);
        put("10000 minutes, seven days later", x, 7, 'a', 0);
        x.shift(0, 480, 81, 0);
        inAll("9999 minutes, seven days later", x, 0, 1);
    }

    private static void restOfOverlaps() {
        Check.sentence("(a shift begins on its day and ends its MINUTES later; fewer than none, if they overlap)");
        RosterRules x = Check.with(1, 3, "rest 0 1;rest 1 10;");
        x.shift(0, 1439, 1440, 0);
        x.shift(1, 1439, 1440, 0);
        x.shift(2, 1438, 1440, 0);
        x.shift(3, 0, 1, 0);
        Check.row(x, 0, "ab-");
        inAll("no minute between, M is 0", x, 0, 0);
        inAll("no minute between, M is 1", x, 1, 1);
        Check.row(x, 0, "ac-");
        inAll("one minute of both, M is 0", x, 0, 1);
        Check.row(x, 0, "ad-");
        inAll("a day less a minute of both, M is 0", x, 0, 1);
        Check.row(x, 0, "a-d");
        inAll("a minute between, M is 0", x, 0, 0);
        inAll("a minute between, M is 1", x, 1, 0);
        x.shift(0, 0, 1440, 0);
        Check.row(x, 0, "ad-");
        inAll("day behind day, M is 0", x, 0, 0);
        inAll("day behind day, M is 1", x, 1, 1);
    }

    private static void restOnADay() {
        Check.sentence("the later one on a day (0 and on)");
        for (int i = 1; i <= 7; i++) {
            RosterRules x = Check.with(1, 2, "rest 10000 1;");
            x.past(0, i, 3);
            inAll("one alone, " + i + " days before", x, 0, 0);
            put("the later one on day 0", x, 0, 'd', 1);
            put("the later one on day 1", x, 1, 'd', 1);
            put("OFF on day 0", x, 0, '-', i == 7 ? -2 : -1);
        }
        RosterRules x = Check.with(1, 2, "rest 10000 1;");
        Check.before(x, 0, "aaaaaaa");
        inAll("all in the PAST", x, 0, 0);
        RosterRules y = Check.with(1, 21, "rest 961 1;");
        Check.row(y, 0, "a".repeat(21));
        inAll("each day but the first", y, 0, 20);
        y.past(0, 1, 0);
        inAll("each day", y, 0, 21);
    }

    private static void restWithOffBetween() {
        Check.sentence("of each two shifts in a ROW with only OFF between");
        RosterRules x = Check.with(2, 5, "rest 10000 1;");
        Check.row(x, 0, "a-b-c");
        inAll("a b, b c, but not a c", x, 0, 2);
        Check.row(x, 1, "-a---");
        inAll("not of two people", x, 0, 2);
        Check.row(x, 0, "a---c");
        inAll("three OFF between", x, 0, 1);
        Check.row(x, 0, "----c");
        inAll("one alone", x, 0, 0);
        Check.row(x, 0, "ab---");
        inAll("none between", x, 0, 1);
    }

    private static void hoursOfOneDay() {
        Check.sentence("hours: of each person and each N days one behind the other");
        RosterRules x = Check.with(2, 3, "hours 100 200 1 1;");
        x.shift(0, 0, 99, 0);
        x.shift(1, 0, 100, 0);
        x.shift(2, 0, 200, 0);
        x.shift(3, 0, 201, 0);
        inAll("a window of one day, all OFF", x, 0, 600);
        Check.row(x, 0, "abc");
        Check.row(x, 1, "dd-");
        Check.due("one below A", x.broken(0, 0), 1);
        Check.due("one above B twice, and OFF", x.broken(0, 1), 102);
        put("of one day alone", x, 1, 'd', 1);
        RosterRules y = Check.with(1, 1, "hours 1 1 1 1;");
        inAll("one day in all", y, 0, 1);
        put("480 for 1", y, 0, 'a', 478);
    }

    private static void hoursOfAllDays() {
        Check.sentence("each N days one behind the other (all of 0 .. D - 1)");
        for (int days : new int[] {1, 2, 7, 21}) {
            RosterRules x = Check.with(1, days, "hours 480 480 " + days + " 1;");
            inAll("all OFF", x, 0, 480);
            put("the last day", x, days - 1, 'a', -480);
            Check.before(x, 0, "aaaaaaa");
            inAll("the PAST is in no window", x, 0, 0);
            if (days > 1) {
                put("the first day, too", x, 0, 'a', 480);
                put("OFF on the last day", x, days - 1, '-', -480);
            }
        }
        RosterRules y = Check.with(8, 21, "hours 0 0 21 1;");
        for (int day = 0; day < 21; day++) {
            y.put(7, day, 0);
        }
        Check.due("21 days", y.broken(0, 7), 21 * 480);
        inAll("one window", y, 0, 21 * 480);
    }

    private static void hoursOfEachWindow() {
        Check.sentence("by how many the MINUTES of their shifts are below A or above B, together");
        for (int n = 1; n <= 5; n++) {
            RosterRules x = Check.with(1, 5, "hours 0 0 " + n + " 1;hours 1 99999 " + n + " 0;");
            inAll("windows of " + n + " days", x, 1, 6 - n);
            put("in the first window alone", x, 0, 'a', 480);
            put("in as many windows as hold the day", x, 2, 'a', 480 * (n == 3 ? 3 : n == 2 || n == 4 ? 2 : 1));
            put("in the last window alone", x, 4, 'a', 480);
        }
    }

    private static void hoursAtBothEnds() {
        Check.sentence("the MINUTES of their shifts are below A or above B");
        RosterRules x = Check.with(1, 2, "hours 480 960 2 1;hours 481 481 2 1;hours 0 99999 2 1;hours 99999 99999 2 1;");
        Check.row(x, 0, "a-");
        inAll("at A", x, 0, 0);
        inAll("one below A", x, 1, 1);
        inAll("between", x, 2, 0);
        inAll("far below", x, 3, 99999 - 480);
        Check.row(x, 0, "aa");
        inAll("at B", x, 0, 0);
        inAll("above B", x, 1, 479);
        x.shift(0, 480, 481, 0);
        inAll("two above B", x, 0, 2);
        x.shift(0, 480, 1440, 0);
        inAll("far above B", x, 0, 2880 - 960);
    }

    private static void neverAtTheEarliest() {
        Check.sentence("from some place of the ROW (at the earliest -7) on");
        RosterRules x = Check.with(1, 3, "never \"h.{6,6}a\" 1;never \".{8,8}a\" 10;never \".{9,9}a\" 100;never \".{7,7}a\" 1000;");
        x.past(0, 7, 7);
        Check.row(x, 0, "a--");
        inAll("from -7 to day 0", x, 0, 1);
        inAll("no place -8", x, 1, 0);
        inAll("no place -9", x, 2, 0);
        inAll("eight letters up to day 0", x, 3, 1);
        Check.row(x, 0, "aa-");
        inAll("from -7 to day 0 alone", x, 0, 1);
        inAll("nine letters up to day 1", x, 1, 1);
        Check.row(x, 0, "aaa");
        inAll("nine letters up to days 1 and 2", x, 1, 2);
        inAll("ten letters up to day 2", x, 2, 1);
        inAll("eight letters up to each day", x, 3, 3);
        x.past(0, 6, 7);
        inAll("from -7 and from -6", x, 0, 2);
        x.past(0, 7, -1);
        inAll("from -6 alone", x, 0, 1);
        Check.due("the weights of them", x.score(), 1 + 20 + 100 + 3000);
    }

    private static void neverOneLetterAtLeast() {
        Check.sentence("the LETTERS (one at least) are a WORD of the PATTERN");
        RosterRules x = Check.with(2, 3, "never \"a*\" 1;never \"a?\" 1;never \"(a|b)*\" 1;never \"a{0,9}\" 1;never \"-*\" 1;");
        for (int k = 0; k < 4; k++) {
            inAll("the row of no letter, law " + k, x, k, 0);
        }
        inAll("one OFF is enough", x, 4, 6);
        Check.row(x, 0, "-a-");
        for (int k = 0; k < 4; k++) {
            inAll("one letter is enough, law " + k, x, k, 1);
            Check.due("of that person", x.broken(k, 0), 1);
            Check.due("not of the other", x.broken(k, 1), 0);
        }
        inAll("OFF five times", x, 4, 5);
    }

    private static void neverUpToADay() {
        Check.sentence("never: each person and day up to which");
        RosterRules x = Check.with(1, 4, "never \"a+\" 1;never \"a|aa|aaa\" 1;never \"a.*\" 1;never \"ab\" 1;");
        Check.row(x, 0, "aaaa");
        inAll("each day once, whatever it begins with", x, 0, 4);
        inAll("each day once, by whichever word", x, 1, 4);
        Check.row(x, 0, "----");
        Check.before(x, 0, "------a");
        inAll("not up to a day of the PAST", x, 0, 0);
        inAll("from the PAST up to each day", x, 2, 4);
        Check.row(x, 0, "b---");
        inAll("from the PAST up to day 0", x, 3, 1);
        Check.before(x, 0, "ababab-");
        inAll("words within the PAST", x, 3, 0);
        Check.row(x, 0, "--ab");
        inAll("up to the last day", x, 3, 1);
        Check.row(x, 0, "---a");
        inAll("begun on the last day", x, 3, 0);
    }

    private static void wholeOfTheDays() {
        Check.sentence("whole: each person whose LETTERS of days 0 .. D - 1 are no WORD of it: 1");
        RosterRules x = Check.with(3, 2, "whole \"ab\" 1;whole \"a\" 1;whole \"(ab)?\" 1;whole \".*\" 1;whole \"...\" 1;");
        inAll("three", x, 0, 3);
        inAll("any", x, 3, 0);
        Check.row(x, 1, "ab");
        inAll("two", x, 0, 2);
        Check.due("a word", x.broken(0, 1), 0);
        Check.due("none", x.broken(0, 2), 1);
        inAll("a part is no whole", x, 1, 3);
        inAll("the row of no letter is none of theirs", x, 2, 2);
        Check.before(x, 0, "ab");
        Check.before(x, 1, "c");
        inAll("the PAST is not in it", x, 0, 2);
        inAll("nor makes it longer", x, 4, 3);
        RosterRules y = Check.with(1, 1, "whole \"-\" 1;whole \"a?\" 1;");
        inAll("one day", y, 0, 0);
        inAll("one day that is there", y, 1, 1);
        RosterRules z = Check.with(1, 21, "whole \"-*a\" 1;");
        inAll("21 days", z, 0, 1);
        put("the last of 21", z, 20, 'a', -1);
        put("the first, too", z, 0, 'a', 1);
    }

    private static void fairOfOneAlone() {
        Check.sentence("less the least times that one has");
        RosterRules x = Check.with(1, 4, "fair a 1;");
        inAll("none", x, 0, 0);
        for (int day = 0; day < 4; day++) {
            put("alone", x, day, 'a', 0);
            inAll("alone", x, 0, 0);
        }
        Check.due("none is asked of one", x.broken(0, 0), Check.BAD);
    }

    private static void fairMostLessLeast() {
        Check.sentence("fair: the most times that a person has the shift (on days), less the least times that one has");
        RosterRules x = Check.with(3, 21, "fair h 1;");
        inAll("none at all", x, 0, 0);
        Check.row(x, 0, "h".repeat(21));
        inAll("21 and none", x, 0, 21);
        Check.row(x, 1, "hh");
        inAll("21, 2 and none", x, 0, 21);
        x.put(2, 20, 7);
        inAll("21, 2 and 1", x, 0, 20);
        Check.before(x, 2, "hhhhhhh");
        inAll("on days alone", x, 0, 20);
        x.put(2, 0, 6);
        inAll("another shift", x, 0, 20);
        Check.row(x, 0, "-".repeat(21));
        inAll("none, 2 and 1", x, 0, 2);
    }

    private static void coverAtBothEnds() {
        Check.sentence("cover: of each day: by how many those who have the shift are below A or above B");
        RosterRules x = Check.with(8, 2, "cover c 3 5 1;");
        for (int p = 0; p <= 8; p++) {
            long due = p < 3 ? 3 - p : p > 5 ? p - 5 : 0;
            Check.due(p + " people", x.broken(0, 1), due);
            inAll(p + " people, and none on day 0", x, 0, 3 + due);
            if (p < 8) {
                x.put(p, 1, 2);
            }
        }
        Check.due("of another day", x.broken(0, 0), 3);
        RosterRules y = Check.with(2, 1, "cover a 1 1 1;");
        inAll("one lacks", y, 0, 1);
        y.put(1, 0, 0);
        inAll("at A and B", y, 0, 0);
        y.put(0, 0, 0);
        inAll("one too many", y, 0, 1);
        y.put(0, 0, 1);
        inAll("another shift", y, 0, 0);
        y.past(0, 1, 0);
        inAll("the PAST", y, 0, 0);
    }

    private static void coverOfNoneAndAll() {
        Check.sentence("by how many those who have the shift are below A or above B");
        RosterRules x = Check.with(8, 1, "cover a 0 0 1;cover a 8 8 1;cover a 0 8 1;");
        for (int p = 0; p <= 8; p++) {
            inAll("0 .. 0 of " + p, x, 0, p);
            inAll("8 .. 8 of " + p, x, 1, 8 - p);
            inAll("0 .. 8 of " + p, x, 2, 0);
            if (p < 8) {
                x.put(p, 0, 0);
            }
        }
    }

    private static void wishesOfCells() {
        Check.sentence("a shift, or OFF, and a weight; it costs that when the CELL is another one");
        RosterRules x = new RosterRules(2, 2);
        x.wish(0, 0, -1, 1000);
        Check.due("OFF, and it is OFF", x.score(), 0);
        put("another one", x, 0, 'a', 1000);
        put("yet another one", x, 0, 'h', 0);
        x.wish(0, 0, 7, 1);
        Check.due("the shift that is there", x.score(), 0);
        put("OFF", x, 0, '-', 1);
        x.wish(1, 1, 0, 10);
        Check.due("two", x.score(), 11);
        x.past(1, 1, 0);
        Check.due("two still", x.score(), 11);
    }

    private static void weightsInTheScore() {
        Check.sentence("THE SCORE: BROKEN times W, of all laws, and what WISHES cost");
        RosterRules x = Check.with(1, 1, "cover a 1 1 0;cover a 2 2 1;cover a 3 3 1000;");
        Check.due("0, 1 and 1000", x.score(), 2 + 3000);
        x.wish(0, 0, 1, 7);
        Check.due("and a wish", x.score(), 3009);
        put("by one each", x, 0, 'a', -1001);
        RosterRules y = Check.with(8, 21, "hours 99999 99999 1 1000;".repeat(16));
        for (int p = 0; p < 8; p++) {
            for (int day = 0; day < 21; day++) {
                y.wish(p, day, 0, 1000);
            }
        }
        long most = 16L * 1000 * 99999 * 168 + 168 * 1000;
        Check.due("the greatest one", y.score(), most);
        Check.due("of one cell", y.put(7, 20, 0), -16L * 1000 * 480 - 1000);
        Check.due("and then", y.score(), most - 16L * 1000 * 480 - 1000);
    }
}
