import java.util.Random;

/** Runs of calls, the same ones in each run of the test, on the program and on the model. */
public final class ModelTest {
    private static final int RUNS = 600;
    private static final int PATTERNS = 8;
    /** What an object answers later is free. */
    private static final int MOST_CALLS = 512;

    private final Random random;
    private final RosterRules x;
    private final Model model;
    private final String name;
    private int calls;

    private ModelTest(int run) {
        random = new Random(run);
        int people = pick(10);
        int days = run % 3 == 0 ? pick(23) : pick(8);
        x = new RosterRules(people, days);
        model = new Model(people, days);
        name = "run " + run + " (" + people + ", " + days + "): ";
    }

    public static void main(String[] args) {
        int runs = args.length > 0 ? Integer.parseInt(args[0]) : RUNS;
        int from = args.length > 1 ? Integer.parseInt(args[1]) : 0;
        for (int run = from; run < from + runs; run++) {
            new ModelTest(run).run();
            ModelTest patterns = new ModelTest(run);
            for (int i = 0; i < PATTERNS; i++) {
                patterns.compareAutomata();
            }
        }
        Check.end();
    }

    private void run() {
        // the dearest call() makes three
        while (calls <= MOST_CALLS - 3 && tell()) {
            for (int i = 0; i < 40 && calls <= MOST_CALLS - 3; i++) {
                call();
            }
        }
    }

    /** Every entry of an automaton, on objects of their own as there may be many. */
    private void compareAutomata() {
        String text = "never \"" + pattern() + "\" 1;";
        Model asked = new Model(1, 1);
        for (char c : text.toCharArray()) {
            asked.feed(1, c);
        }
        int states = asked.read() == 1 ? asked.law(0, 3) : 0;
        RosterRules fresh = null;
        for (int s = 0; s < states; s++) {
            if (s % 40 == 0) {
                fresh = Check.with(1, 1, text);
            }
            for (int letter = 0; letter <= 9; letter++) {
                Check.due("state(0, " + s + ", " + letter + ") of " + text, fresh.state(0, s, letter), asked.state(0, s, letter));
            }
        }
    }

    private int pick(int n) {
        return random.nextInt(n);
    }

    private int near(int low, int high) {
        int chance = pick(60);
        if (chance == 0) {
            return low - 1;
        }
        if (chance == 1) {
            return high + 1;
        }
        if (chance == 2) {
            return pick(2) == 0 ? Integer.MIN_VALUE : Integer.MAX_VALUE;
        }
        return low + pick(high - low + 1);
    }

    private void due(String call, long got, long want) {
        calls++;
        Check.due(name + call, got, want);
    }

    // ---- texts

    /** Whether there were calls enough left to tell a text. */
    private boolean tell() {
        StringBuilder text = new StringBuilder();
        int laws = pick(12) == 0 ? 15 + pick(3) : pick(7);
        for (int i = 0; i < laws; i++) {
            text.append(law()).append(";".repeat(pick(40) == 0 ? pick(3) : 1));
            text.append(" \n ".repeat(pick(4) == 0 ? 1 : 0));
        }
        if (pick(4) == 0 && text.length() > 0) {
            int i = pick(text.length());
            switch (pick(3)) {
                case 0 -> text.setCharAt(i, (char) (pick(3) == 0 ? pick(256) : 32 + pick(95)));
                case 1 -> text.deleteCharAt(i);
                default -> text.insert(i, (char) (32 + pick(95)));
            }
        }
        String whole = text.toString();
        if (calls + whole.length() / 8 + 3 > MOST_CALLS) {
            return false;
        }
        for (int i = 0; i < whole.length(); i += 8) {
            long bytes = random.nextLong();
            int n = Math.min(8, whole.length() - i);
            for (int k = 0; k < n; k++) {
                bytes = bytes & ~(255L << 8 * k) | (long) whole.charAt(i + k) << 8 * k;
            }
            due("feed", x.feed(n, bytes), model.feed(n, bytes));
        }
        due("read of " + whole, x.read(), model.read());
        due("place in " + whole, x.place(), model.place());
        return true;
    }

    private String number(int high) {
        int chance = pick(100);
        return chance == 0 ? String.valueOf(high + 1) : chance == 1 ? "00" + pick(high + 1) : String.valueOf(pick(high + 1));
    }

    private String law() {
        String weight = " " + number(1000);
        switch (pick(7)) {
            case 0:
                return "skill" + weight;
            case 1:
                return "rest " + number(pick(2) == 0 ? 1500 : 10000) + weight;
            case 2:
                int a = pick(2000);
                int n = 1 + pick(model.days);
                return "hours " + a + " " + (a + pick(2000)) + " " + (pick(50) == 0 ? model.days + 1 : n) + weight;
            case 3:
                return "never\"" + pattern() + "\"" + weight;
            case 4:
                return "whole \"" + pattern() + "\"" + weight;
            case 5:
                return "fair " + (char) ('a' + pick(pick(20) == 0 ? 9 : 8)) + weight;
            default:
                int low = pick(6);
                return "cover " + (char) ('a' + pick(8)) + " " + low + " " + (low + pick(4) - (pick(30) == 0 ? 2 : 0)) + weight;
        }
    }

    /** Bytes that mostly make no pattern, so that every fault within one is met. */
    private String noise() {
        String bytes = "-ab.[]^(){,}12*+?|(a)";
        StringBuilder text = new StringBuilder();
        for (int n = pick(12); n >= 0; n--) {
            text.append(pick(6) == 0 ? "a{1," : String.valueOf(bytes.charAt(pick(bytes.length()))));
        }
        return text.toString();
    }

    private String pattern() {
        if (pick(10) == 0) {
            return noise();
        }
        String whole = alternatives(2, 1 + pick(8));
        return whole.length() > 40 && pick(5) > 0 ? "a(b|-)*" : whole;
    }

    private String alternatives(int depth, int places) {
        StringBuilder text = new StringBuilder(row(depth, places));
        while (pick(3) == 0) {
            text.append('|').append(row(depth, 1 + pick(2)));
        }
        return text.toString();
    }

    private String row(int depth, int places) {
        StringBuilder text = new StringBuilder();
        for (int left = places; left > 0;) {
            int part = depth > 0 && pick(3) == 0 ? 1 + pick(left) : 1;
            text.append(part > 1 || depth > 0 && pick(6) == 0 ? "(" + alternatives(depth - 1, part) + ")" : atom());
            left -= part;
            int least = pick(3);
            switch (pick(9)) {
                case 0 -> text.append('*');
                case 1 -> text.append('+');
                case 2 -> text.append('?');
                case 3 -> {
                    text.append('{').append(least).append(',').append(pick(20) == 0 ? pick(10) : Math.max(1, least + pick(2))).append('}');
                    left -= part;
                }
                default -> { }
            }
        }
        return text.toString();
    }

    private String atom() {
        String letters = "-abcab-cdefgh";
        switch (pick(6)) {
            case 0:
                return ".";
            case 1:
            case 2:
                StringBuilder choice = new StringBuilder(pick(3) == 0 ? "[^" : "[");
                for (int n = pick(4); n >= 0; n--) {
                    choice.append(letters.charAt(pick(letters.length())));
                }
                return choice.append(']').toString();
            default:
                return String.valueOf(letters.charAt(pick(letters.length())));
        }
    }

    // ---- calls

    private void call() {
        int p = near(0, model.people - 1);
        int day = near(0, model.days - 1);
        int shift = near(-1, pick(2) == 0 ? 2 : 7);
        int k = near(0, Math.max(0, model.count(0) - 1));
        String cell = "(" + p + ", " + day + ", " + shift + ")";
        switch (pick(24)) {
            case 0, 1, 2, 3, 4, 5 -> due("put" + cell, x.put(p, day, shift), model.put(p, day, shift));
            case 6 -> due("change" + cell, x.change(p, day, shift), model.change(p, day, shift));
            case 7 -> due("undo", x.undo(), model.undo());
            case 8 -> due("best" + cell, x.best(p, day), model.best(p, day));
            case 9 -> descend();
            case 10 -> tellShift();
            case 11 -> tellPerson(p, day, shift);
            case 12 -> due("score", x.score(), model.score());
            case 13, 14 -> {
                int of = near(-1, Math.max(model.people, model.days) - 1);
                due("broken(" + k + ", " + of + ")", x.broken(k, of), model.broken(k, of));
            }
            case 15 -> {
                int to = near(0, model.days - 1);
                due("minutes", x.minutes(p, day, to), model.minutes(p, day, to));
            }
            case 16 -> {
                int what = near(0, 4);
                due("law(" + k + ", " + what + ")", x.law(k, what), model.law(k, what));
            }
            case 17, 18 -> askAutomaton(k);
            case 19 -> {
                int b = near(0, Math.max(0, model.count(0) - 1));
                due("alike(" + k + ", " + b + ")", x.alike(k, b), model.alike(k, b));
            }
            case 20 -> {
                int n = near(0, 40);
                due("words(" + k + ", " + n + ")", x.words(k, n), model.words(k, n));
            }
            case 21 -> {
                int i = near(0, 4);
                due("word(" + k + ", " + i + ")", x.word(k, i), model.word(k, i));
            }
            case 22 -> due("at" + cell, x.at(p, day), model.at(p, day));
            default -> {
                int what = near(0, 4);
                due("count(" + what + ")", x.count(what), model.count(what));
            }
        }
    }

    private void descend() {
        // the model is too slow to walk over large rosters often
        if (model.people * model.days <= 24 || pick(40) == 0) {
            int n = near(0, 3);
            due("descend(" + n + ")", x.descend(n), model.descend(n));
            due("score behind descend(" + n + ")", x.score(), model.score());
        }
    }

    private void tellShift() {
        int k = near(0, 7);
        int begin = near(0, 1439);
        int minutes = near(1, 1440);
        int skill = near(0, 9);
        due("shift", x.shift(k, begin, minutes, skill), model.shift(k, begin, minutes, skill));
    }

    private void tellPerson(int p, int day, int shift) {
        int skills = near(0, 1023);
        due("person", x.person(p, skills), model.person(p, skills));
        int i = near(1, 7);
        due("past", x.past(p, i, shift), model.past(p, i, shift));
        int weight = pick(4) == 0 ? 0 : near(0, 1000);
        due("wish", x.wish(p, day, shift, weight), model.wish(p, day, shift, weight));
    }

    private void askAutomaton(int k) {
        int states = model.law(k, 3);
        int state = near(0, Math.max(1, states) - 1);
        int letter = near(0, 9);
        due("state(" + k + ", " + state + ", " + letter + ")", x.state(k, state, letter), model.state(k, state, letter));
    }
}
