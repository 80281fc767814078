import java.lang.reflect.Method;
import java.util.ArrayList;
import java.util.Arrays;
import java.util.List;

/**
 * "BAD: an argument is none of those told. NO as told; of both BAD first. What is refused changes
 * nothing (but THE TAPE)." Each call with each argument at both ends of its range, one beyond
 * each, and at the least and the greatest int; and all that can be asked of an object behind it.
 */
public final class RefusedTest {
    private static final int PEOPLE = 3, DAYS = 4, LAWS = 8;
    private static final int BAD = Check.BAD, NO = Check.NO, LOW = Check.LOW, HIGH = Check.HIGH;
    /** Laws 0 .. 4 are asked by people, 5 in all alone, 6 by days; 3, 4 and 7 have a PATTERN, 7 one of 5 states. */
    private static final String TEXT = "skill 3;rest 700 5;hours 400 900 2 1;never \"a.?b\" 11;whole \"[^h]*a\" 13;"
        + "fair b 17;cover a 1 2 19;whole \"abc\" 23;";

    /** A call, the range of each of its arguments, and what it answers when one is beyond it. */
    private record Call(String name, long refused, int[]... ranges) {
        long on(RosterRules x, long[] arguments) {
            try {
                for (Method m : RosterRules.class.getMethods()) {
                    if (m.getName().equals(name)) {
                        Object[] values = new Object[arguments.length];
                        for (int i = 0; i < values.length; i++) {
                            values[i] = m.getParameterTypes()[i] == long.class ? (Object) arguments[i] : (Object) (int) arguments[i];
                        }
                        return ((Number) m.invoke(x, values)).longValue();
                    }
                }
            } catch (ReflectiveOperationException e) {
                throw new IllegalStateException(name + Arrays.toString(arguments), e);
            }
            throw new IllegalStateException(name);
        }
    }

    private static int[] range(int low, int high) {
        return new int[] {low, high};
    }

    private static final int[] P = range(0, PEOPLE - 1), D = range(0, DAYS - 1), SHIFT = range(-1, 7), LAW = range(0, LAWS - 1);
    private static final int[] ANY = range(LOW, HIGH);
    private static final Call[] CALLS = {
        new Call("feed", BAD, range(1, 8), ANY),
        new Call("shift", BAD, range(0, 7), range(0, 1439), range(1, 1440), range(0, 9)),
        new Call("person", BAD, P, range(0, 1023)),
        new Call("past", -9, P, range(1, 7), SHIFT),
        new Call("wish", BAD, P, D, SHIFT, range(0, 1000)),
        new Call("at", -9, P, D),
        new Call("put", Check.NO_SUCH, P, D, SHIFT),
        new Call("change", Check.NO_SUCH, P, D, SHIFT),
        new Call("best", -9, P, D),
        new Call("descend", BAD, range(0, 3)),
        new Call("broken", BAD, range(0, 4), range(-1, PEOPLE - 1)),
        new Call("broken", BAD, range(5, 5), range(-1, -1)),
        new Call("broken", BAD, range(6, 6), range(-1, DAYS - 1)),
        new Call("minutes", BAD, P, D, D),
        new Call("law", BAD, LAW, range(0, 4)),
        new Call("state", BAD, range(7, 7), range(0, 4), range(0, 9)),
        new Call("alike", BAD, LAW, LAW),
        new Call("words", -1, range(3, 4), range(0, 40)),
        new Call("word", BAD, LAW, range(0, HIGH)),
        new Call("count", BAD, range(0, 4)),
    };

    public static void main(String[] args) {
        refusedOrNot();
        changesNothing();
        changesNothingByNo();
        askingChangesNothing();
        readChangesTheTape();
        badBeforeNo();
        Check.end();
    }

    private static RosterRules used() {
        RosterRules x = Check.with(PEOPLE, DAYS, TEXT);
        x.shift(0, 420, 500, 2);
        x.shift(1, 1320, 600, 7);
        x.shift(7, 1439, 1440, 9);
        x.person(0, 4);
        x.person(1, 1023 - 128);
        Check.before(x, 0, "ba");
        Check.before(x, 2, "h--b---");
        x.wish(0, 0, 1, 29);
        x.wish(1, 3, -1, 31);
        x.wish(2, 1, 7, 1000);
        Check.row(x, 0, "ab-a");
        Check.row(x, 1, "-ba");
        Check.row(x, 2, "h");
        Check.feed(x, " fair h 1");
        return x;
    }

    /** Every number within the range at its ends, or all of it where there are few; and those around it. */
    private static List<Long> values(int[] range) {
        List<Long> values = new ArrayList<>();
        for (long v = range[0] - 2L; v <= range[1] + 2L && range[1] - (long) range[0] <= 10; v++) {
            values.add(v);
        }
        for (long v : new long[] {LOW, range[0] - 1L, range[0], range[1], range[1] + 1L, HIGH}) {
            if (v >= LOW && v <= HIGH && !values.contains(v)) {
                values.add(v);
            }
        }
        return values;
    }

    private static boolean within(long value, int[] range) {
        return value >= range[0] && value <= range[1];
    }

    private static void refusedOrNot() {
        Check.sentence("BAD: an argument is none of those told");
        for (Call call : CALLS) {
            every(call, new long[call.ranges.length], 0);
        }
    }

    private static void every(Call call, long[] arguments, int i) {
        if (i < arguments.length) {
            for (long value : values(call.ranges[i])) {
                // another law has another range for what is asked of it
                boolean otherLaw = i == 0 && within(value, LAW) && !within(value, call.ranges[0])
                    && (call.name.equals("broken") || call.name.equals("state") || call.name.equals("words"));
                if (!otherLaw) {
                    arguments[i] = value;
                    every(call, arguments, i + 1);
                }
            }
            return;
        }
        boolean told = !call.name.equals("minutes") || arguments[1] <= arguments[2];
        for (int k = 0; k < i; k++) {
            told &= within(arguments[k], call.ranges[k]);
        }
        long answer = call.on(used(), arguments);
        Check.due(call.name + Arrays.toString(arguments) + " (" + answer + ") is refused", answer == call.refused ? 1 : 0, told ? 0 : 1);
    }

    /** All that can be asked of it, and then all that can be undone and read. */
    private static List<Long> allOf(RosterRules x) {
        List<Long> all = new ArrayList<>();
        all.add((long) x.place());
        askLawsAndCells(x, all);
        for (int p = 0; p < PEOPLE; p++) {
            for (int i = 1; i <= 7; i++) {
                int was = x.past(p, i, -1);
                all.add((long) was);
                x.past(p, i, was);
            }
        }
        for (int left = 0; left < 20; left++) {
            all.add((long) x.undo());
            all.add(x.score());
        }
        Check.feed(x, "; rest 0 1;");
        all.add((long) x.read());
        all.add((long) x.place());
        all.add((long) x.law(0, 0));
        all.add((long) x.law(1, 2));
        return all;
    }

    private static void askLawsAndCells(RosterRules x, List<Long> all) {
        for (int what = 0; what <= 4; what++) {
            all.add((long) x.count(what));
        }
        for (int k = 0; k < LAWS; k++) {
            for (int what = 0; what <= 4; what++) {
                all.add((long) x.law(k, what));
            }
            for (int of = -1; of < DAYS; of++) {
                all.add(x.broken(k, of));
            }
            all.add(x.words(k, 3));
            all.add((long) x.word(k, 0));
            all.add((long) x.state(k, 0, 1));
        }
        for (int p = 0; p < PEOPLE; p++) {
            for (int day = 0; day < DAYS; day++) {
                all.add((long) x.at(p, day));
                all.add(x.change(p, day, -1));
                all.add(x.change(p, day, 7));
                all.add((long) x.best(p, day));
            }
            all.add(x.minutes(p, 0, DAYS - 1));
        }
        all.add(x.score());
    }

    private static void changesNothing() {
        Check.sentence("What is refused changes nothing");
        List<Long> due = allOf(used());
        for (Call call : CALLS) {
            for (int i = 0; i < call.ranges.length; i++) {
                long[] arguments = new long[call.ranges.length];
                for (int k = 0; k < arguments.length; k++) {
                    arguments[k] = call.ranges[k][1];
                }
                for (long value : values(call.ranges[i])) {
                    arguments[i] = value;
                    RosterRules x = used();
                    if (call.on(x, arguments) == call.refused) {
                        Check.holds("as it was behind " + call.name + Arrays.toString(arguments), allOf(x).equals(due));
                    }
                }
            }
        }
        RosterRules x = used();
        Check.due("to less than from", x.minutes(0, 2, 1), BAD);
        Check.holds("as it was", allOf(x).equals(due));
    }

    private static void changesNothingByNo() {
        Check.sentence("What is refused changes nothing");
        List<Long> due = allOf(used());
        RosterRules x = used();
        Check.due("law", x.law(0, 3), NO);
        Check.due("state", x.state(6, 0, 0), NO);
        Check.due("alike", x.alike(3, 5), NO);
        Check.due("word", x.word(1, 0), NO);
        Check.due("word", x.word(3, 2), NO);
        Check.due("words", x.words(2, 2), -1);
        Check.holds("as it was", allOf(x).equals(due));
        RosterRules y = new RosterRules(PEOPLE, DAYS);
        Check.due("undo", y.undo(), NO);
        Check.due("place", y.place(), NO);
        Check.holds("as a new one", allOf(y).equals(allOf(new RosterRules(PEOPLE, DAYS))));
        RosterRules full = used();
        Check.feed(full, " ".repeat(1500 - 9));
        for (int n = 1; n <= 8; n++) {
            Check.due("feed", full.feed(n, -1L), Check.FULL);
        }
        Check.due("the tape as it was", full.count(1), 1500);
        Check.due("and read as it was", full.read(), -12);
        Check.due("up to its end", full.place(), 1500);
    }

    private static void askingChangesNothing() {
        Check.sentence("As put(), but nothing changes");
        List<Long> due = allOf(used());
        String[] asking = {"at", "change", "best", "broken", "minutes", "law", "state", "alike", "words", "word", "count"};
        for (Call call : CALLS) {
            RosterRules x = used();
            if (Arrays.asList(asking).contains(call.name)) {
                long[] arguments = new long[call.ranges.length];
                for (int turn = 0; turn < 2; turn++) {
                    for (int k = 0; k < arguments.length; k++) {
                        arguments[k] = call.ranges[k][turn];
                    }
                    call.on(x, arguments);
                }
                Check.due("no step", x.descend(0), 0);
                Check.holds("as it was behind " + call.name, allOf(x).equals(due));
            }
        }
    }

    private static void readChangesTheTape() {
        Check.sentence("What is refused changes nothing (but THE TAPE)");
        for (String end : new String[] {"@", "", " 1;", "001;"}) {
            RosterRules x = used();
            RosterRules y = used();
            Check.feed(x, end);
            int answer = x.read();
            Check.holds("a fault: " + answer, answer <= -11 && answer >= -14);
            Check.due("THE TAPE", x.count(1), 0);
            Check.holds("its place", x.place() >= 0);
            List<Long> ofX = new ArrayList<>();
            List<Long> ofY = new ArrayList<>();
            Check.feed(x, " fair h 1");
            askLawsAndCells(x, ofX);
            askLawsAndCells(y, ofY);
            Check.holds("all but THE TAPE as it was", ofX.equals(ofY));
            Check.due("the latest put is still there", x.undo(), y.undo());
        }
    }

    private static void badBeforeNo() {
        Check.sentence("of both BAD first");
        RosterRules x = used();
        for (int k : new int[] {0, 1, 2, 5, 6}) {
            Check.due("state, letter 10", x.state(k, 0, 10), BAD);
            Check.due("state, letter -1", x.state(k, 0, -1), BAD);
            Check.due("alike, no such law behind", x.alike(k, LAWS), BAD);
            Check.due("alike, no such law before", x.alike(-1, k), BAD);
            Check.due("word, no such letter", x.word(k, -1), BAD);
            Check.due("law, no such thing", x.law(k, 5), BAD);
        }
        Check.due("feed", x.feed(0, 0), BAD);
        Check.feed(x, " ".repeat(1500 - 9));
        Check.due("feed of a full tape", x.feed(0, 0), BAD);
        Check.due("feed of a full tape", x.feed(9, 0), BAD);
        Check.due("FULL", x.feed(1, 0), Check.FULL);
    }
}
