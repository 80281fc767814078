import java.nio.charset.StandardCharsets;

/** What the tests of the project share: answers compared and counted, and texts fed. */
public final class Check {
    static final int BAD = -1, NO = -2, FULL = -3;
    static final int LOW = Integer.MIN_VALUE, HIGH = Integer.MAX_VALUE;
    static final long NO_SUCH = 1L << 62;

    private static int wrong = 0;
    private static int asked = 0;
    private static int sentences = 0;
    private static String sentence = "";

    private Check() {
    }

    /** The words of the document that the answers from here on are about. */
    static void sentence(String words) {
        sentences++;
        sentence = "\"" + words + "\": ";
    }

    public static void due(String what, long got, long want) {
        asked++;
        if (got != want) {
            wrong++;
            System.out.println(sentence + what + " answered " + got + ", due is " + want);
        }
    }

    static void holds(String what, boolean condition) {
        due(what, condition ? 1 : 0, 1);
    }

    static void feed(RosterRules x, String text) {
        byte[] bytes = text.getBytes(StandardCharsets.ISO_8859_1);
        for (int from = 0; from < bytes.length; from += 8) {
            int n = Math.min(8, bytes.length - from);
            long number = 0;
            for (int i = n - 1; i >= 0; i--) {
                number = number << 8 | bytes[from + i] & 255;
            }
            x.feed(n, number);
        }
    }

    static int read(RosterRules x, String text) {
        feed(x, text);
        return x.read();
    }

    static RosterRules with(int people, int days, String text) {
        RosterRules x = new RosterRules(people, days);
        int answer = read(x, text);
        holds("read of " + text + " (it answered " + answer + ")", answer >= 0);
        return x;
    }

    /** A text with this fault at this place; the law from before stays. */
    static void fault(String text, int number, int place) {
        RosterRules x = with(4, 14, "skill 7;");
        due("read of " + text, read(x, text), -10 - number);
        due("place in " + text, x.place(), place);
        due("tape behind " + text, x.count(1), 0);
        due("laws behind " + text, x.count(0), 1);
        due("weight behind " + text, x.law(0, 1), 7);
    }

    /** A text of so many laws, without a fault. */
    static void fine(String text, int laws) {
        RosterRules x = with(4, 14, "skill 7;");
        due("read of " + text, read(x, text), laws);
        due("place in " + text, x.place(), NO);
        due("tape behind " + text, x.count(1), 0);
        due("laws of " + text, x.count(0), laws);
    }

    /** The letters of a person's days from day 0 on, '-' for OFF. */
    static void row(RosterRules x, int p, String letters) {
        for (int day = 0; day < letters.length(); day++) {
            x.put(p, day, shiftOf(letters.charAt(day)));
        }
    }

    /** The letters of a person's past, the last of them on the day before day 0. */
    static void before(RosterRules x, int p, String letters) {
        for (int i = 1; i <= letters.length(); i++) {
            x.past(p, i, shiftOf(letters.charAt(letters.length() - i)));
        }
    }

    private static int shiftOf(char letter) {
        return letter == '-' ? -1 : letter - 'a';
    }

    static void end() {
        System.out.println((sentences > 0 ? sentences + " sentences, " : "") + asked + " answers, " + wrong + " wrong");
        if (wrong != 0) {
            System.exit(1);
        }
    }
}
