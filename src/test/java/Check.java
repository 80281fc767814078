import java.nio.charset.StandardCharsets;

/** What the tests of the project share: answers compared and counted, and texts fed. */
final class Check {
    private static int wrong = 0;
    private static int asked = 0;

    private Check() {
    }

    static void due(String what, long got, long want) {
        asked++;
        if (got != want) {
            wrong++;
            System.out.println(what + " answered " + got + ", due is " + want);
        }
    }

    static void holds(String what, boolean condition) {
        due(what, condition ? 1 : 0, 1);
    }

    static void feed(RosterRules x, String text) {
        byte[] bytes = text.getBytes(StandardCharsets.ISO_8859_1);
        for (int from = 0; from < bytes.length; from += 8) {
            int n = Math.min(8, bytes.length - from);
            long number = 0;
            for (int i = n - 1; i >= 0; i--) {
                number = number << 8 | bytes[from + i] & 255;
            }
            x.feed(n, number);
        }
    }

    static int read(RosterRules x, String text) {
        feed(x, text);
        return x.read();
    }

    static RosterRules with(int people, int days, String text) {
        RosterRules x = new RosterRules(people, days);
        int answer = read(x, text);
        holds("read of " + text + " (it answered " + answer + ")", answer >= 0);
        return x;
    }

    /** The letters of a person's days from day 0 on, '-' for OFF. */
    static void row(RosterRules x, int p, String letters) {
        for (int day = 0; day < letters.length(); day++) {
            x.put(p, day, letters.charAt(day) == '-' ? -1 : letters.charAt(day) - 'a');
        }
    }

    static void end() {
        System.out.println(asked + " answers, " + wrong + " wrong");
        if (wrong != 0) {
            System.exit(1);
        }
    }
}
