import java.util.Random;
import java.util.regex.Pattern;

/**
 * The words of random patterns against those that java.util.regex finds: it was not written from
 * this project's reading of the document, as Model was.
 */
public final class RegexTest {
    private static final String LETTERS = "-abcdefgh";
    /** A state is asked for by ten calls, and an object has 512. */
    private static final int MOST_STATES = 40;

    private final Random random;

    private RegexTest(long seed) {
        random = new Random(seed);
    }

    public static void main(String[] args) {
        int runs = args.length > 0 ? Integer.parseInt(args[0]) : 250;
        int compared = 0;
        for (int run = 0; run < runs; run++) {
            compared += new RegexTest(run).compare() ? 1 : 0;
        }
        System.out.println(compared + " of " + runs + " patterns were short and small enough to be compared");
        Check.holds("half of the patterns are compared", 2 * compared >= runs);
        Check.end();
    }

    private boolean compare() {
        String pattern = alt(0);
        RosterRules x = new RosterRules(1, 1);
        if (pattern.length() > 40 || Check.read(x, "whole \"" + pattern + "\" 1;") != 1 || x.law(0, 3) > MOST_STATES) {
            return false;
        }
        int[][] table = table(x);
        Pattern regex = Pattern.compile(inJava(pattern));
        long[] counts = new long[4];
        String shortest = null;
        for (int n = 0; n < counts.length; n++) {
            for (int number = 0; number < Math.pow(9, n); number++) {
                String row = row(number, n);
                boolean matches = regex.matcher(row).matches();
                counts[n] += matches ? 1 : 0;
                shortest = shortest == null && matches ? row : shortest;
                Check.due(pattern + " takes " + row, takes(table, row), matches ? 1 : 0);
            }
            Check.due("words of " + n + " letters of " + pattern, x.words(0, n), counts[n]);
        }
        for (int i = 0; shortest != null && i <= shortest.length(); i++) {
            int letter = i < shortest.length() ? LETTERS.indexOf(shortest.charAt(i)) : Check.NO;
            Check.due("letter " + i + " of the shortest word of " + pattern, x.word(0, i), letter);
        }
        for (int i = 0; i < 200; i++) {
            String row = longRow(table);
            Check.due(pattern + " takes " + row, takes(table, row), regex.matcher(row).matches() ? 1 : 0);
        }
        return true;
    }

    private static int[][] table(RosterRules x) {
        int[][] table = new int[x.law(0, 3)][10];
        for (int s = 0; s < table.length; s++) {
            for (int letter = 0; letter < 10; letter++) {
                table[s][letter] = x.state(0, s, letter);
            }
        }
        return table;
    }

    private static int takes(int[][] table, String row) {
        int state = 0;
        for (char letter : row.toCharArray()) {
            state = table[state][LETTERS.indexOf(letter)];
        }
        return table[state][9];
    }

    private static String row(int number, int n) {
        StringBuilder row = new StringBuilder();
        for (int i = 0; i < n; i++) {
            row.append(LETTERS.charAt(number % 9));
            number /= 9;
        }
        return row.reverse().toString();
    }

    /** Goes on, where it can, by a letter that does not lead back to where it stands: few rows at random are words. */
    private String longRow(int[][] table) {
        StringBuilder row = new StringBuilder();
        int state = 0;
        for (int n = random.nextInt(14); n > 0; n--) {
            int letter = random.nextInt(9);
            for (int again = 0; again < 8 && table[state][letter] == state; again++) {
                letter = random.nextInt(9);
            }
            row.append(LETTERS.charAt(letter));
            state = table[state][letter];
        }
        return row.toString();
    }

    /** In java.util.regex a - within [ ] is a span unless it is escaped; all else stands as it is. */
    private static String inJava(String pattern) {
        return pattern.replace("-", "\\-");
    }

    private String alt(int depth) {
        String first = items(depth);
        return random.nextInt(3) == 0 ? first + "|" + items(depth) : first;
    }

    private String items(int depth) {
        StringBuilder row = new StringBuilder(item(depth));
        while (random.nextInt(5) < 2) {
            row.append(item(depth));
        }
        return row.toString();
    }

    private String item(int depth) {
        int n = random.nextInt(4);
        String[] signs = {"", "", "", "*", "+", "?", "{" + n + "," + Math.max(1, n + random.nextInt(2)) + "}"};
        return atom(depth) + signs[random.nextInt(signs.length)];
    }

    private String atom(int depth) {
        switch (random.nextInt(depth < 4 ? 7 : 4)) {
            case 0:
                return ".";
            case 1:
                return choice();
            case 2:
            case 3:
                return letter();
            default:
                return "(" + alt(depth + 1) + ")";
        }
    }

    private String choice() {
        StringBuilder these = new StringBuilder(random.nextInt(3) == 0 ? "[^" : "[");
        for (int n = 1 + random.nextInt(4); n > 0; n--) {
            these.append(letter());
        }
        return these.append("]").toString();
    }

    private String letter() {
        return String.valueOf(LETTERS.charAt(random.nextInt(random.nextInt(3) == 0 ? 9 : 4)));
    }
}
