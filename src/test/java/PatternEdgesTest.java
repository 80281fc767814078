import java.math.BigInteger;

/** Each sentence of promises 18 to 22, and of Terms about THE AUTOMATON, that names an edge, by itself. */
public final class PatternEdgesTest {
    private static final int BAD = Check.BAD, NO = Check.NO;
    private static final int LOW = Check.LOW, HIGH = Check.HIGH;
    private static final String LETTERS = "-abcdefgh";
    /** A law of each sort, in the order of their numbers. */
    private static final String SORTS = "skill 1;rest 1 1;hours 1 1 1 1;never \"a\" 1;whole \"a\" 1;fair a 1;cover a 1 1 1;";

    public static void main(String[] args) {
        lawsAsked();
        placeOfFirstToken();
        noWithoutPattern();
        lawThatIsNotThere();
        timesOfRepeats();
        wordsOfSigns();
        completeAutomaton();
        leastAutomaton();
        statesThatAreNearlyAlike();
        numberedAsComeTo();
        mayEnd();
        stateThatIsNotThere();
        noPattern();
        sameWords();
        alikeRefused();
        wordsOfLengths();
        wordsWrap();
        wordsNone();
        shortestWord();
        firstOfShortest();
        notSoManyLetters();
        wordRefused();
        Check.end();
    }

    private static void due(String what, long got, long want) {
        Check.due(what, got, want);
    }

    private static RosterRules of(String... patterns) {
        StringBuilder text = new StringBuilder();
        for (String pattern : patterns) {
            text.append("never \"").append(pattern).append("\" 1;");
        }
        return Check.with(2, 2, text.toString());
    }

    // ---- promise 18

    private static void lawsAsked() {
        Check.sentence("what = 0 its sort (0 skill, 1 rest, 2 hours, 3 never, 4 whole, 5 fair, 6 cover), 1 W");
        RosterRules x = Check.with(2, 2, SORTS);
        for (int k = 0; k < 7; k++) {
            due("sort", x.law(k, 0), k);
            due("W", x.law(k, 1), 1);
        }
        RosterRules y = Check.with(2, 2, "cover a 2 3 0;skill 1000;");
        due("sort", y.law(0, 0), 6);
        due("W 0", y.law(0, 1), 0);
        due("sort", y.law(1, 0), 0);
        due("W 1000", y.law(1, 1), 1000);
    }

    private static void placeOfFirstToken() {
        Check.sentence("2 the place of its first TOKEN in its text");
        RosterRules x = Check.with(2, 2, "skill 1;\n skill 1;skill 1 ; skill 1;");
        int[] places = {0, 10, 18, 28};
        for (int k = 0; k < places.length; k++) {
            due("place of " + k, x.law(k, 2), places[k]);
        }
        due("in a text of its own", Check.read(x, "  fair a 1;"), 1);
        due("its place", x.law(0, 2), 2);
    }

    private static void noWithoutPattern() {
        Check.sentence("(NO without a PATTERN: 3, 4)");
        RosterRules x = Check.with(2, 2, SORTS);
        for (int k = 0; k < 7; k++) {
            boolean pattern = k == 3 || k == 4;
            due("states of sort " + k, x.law(k, 3), pattern ? 3 : NO);
            due("PLACES of sort " + k, x.law(k, 4), pattern ? 1 : NO);
            due("5 of sort " + k, x.law(k, 5), BAD);
            due("-1 of sort " + k, x.law(k, -1), BAD);
        }
        RosterRules y = Check.with(2, 2, "never \"ab\" 1;");
        due("states", y.law(0, 3), 4);
        due("another sort in its place", Check.read(y, "skill 1;"), 1);
        due("states", y.law(0, 3), NO);
        due("PLACES", y.law(0, 4), NO);
    }

    private static void lawThatIsNotThere() {
        Check.sentence("BAD: an argument is none of those told");
        for (int laws : new int[] {0, 1, 7, 16}) {
            RosterRules x = Check.with(2, 2, "never \"a\" 1;".repeat(laws));
            for (int k : new int[] {laws, laws + 1, 16, 17, -1, LOW, HIGH}) {
                for (int what = 0; what <= 4; what++) {
                    due("law " + k + " of " + laws, x.law(k, what), BAD);
                }
                due("broken " + k + " of " + laws, x.broken(k, -1), BAD);
                due("state " + k + " of " + laws, x.state(k, 0, 0), BAD);
                due("words " + k + " of " + laws, x.words(k, 1), -1);
                due("word " + k + " of " + laws, x.word(k, 0), BAD);
                due("alike " + k + " of " + laws, x.alike(k, 0), BAD);
                due("alike " + k + " of " + laws, x.alike(0, k), BAD);
            }
            if (laws > 0) {
                due("the last one", x.law(laws - 1, 3), 3);
                due("its broken", x.broken(laws - 1, -1), 0);
                due("its state", x.state(laws - 1, 0, 0), 1);
                due("its words", x.words(laws - 1, 1), 1);
                due("its word", x.word(laws - 1, 0), 1);
                due("alike", x.alike(0, laws - 1), 1);
            }
        }
    }

    // ---- WORDS of a PATTERN, by how many there are of each length

    private static void lengths(String pattern, long... due) {
        RosterRules x = of(pattern);
        for (int n = 0; n < due.length; n++) {
            due("words of " + pattern + " of " + n, x.words(0, n), due[n]);
        }
    }

    private static void timesOfRepeats() {
        Check.sentence("* any number of times, none too, + once or more, ? once or not at all, {n,m} n to m times");
        lengths("a*", 1, 1, 1, 1, 1, 1, 1, 1, 1, 1, 1, 1, 1);
        lengths("a+", 0, 1, 1, 1, 1, 1, 1, 1, 1, 1, 1, 1, 1);
        lengths("a?", 1, 1, 0, 0, 0);
        for (int n = 0; n <= 9; n++) {
            for (int m = Math.max(1, n); m <= 9; m++) {
                RosterRules x = of("a{" + n + "," + m + "}");
                for (int length = 0; length <= 10; length++) {
                    due("a{" + n + "," + m + "} of " + length, x.words(0, length), length >= n && length <= m ? 1 : 0);
                }
            }
        }
        lengths("(ab){0,2}", 1, 0, 1, 0, 1, 0, 0);
        lengths("(a?){2,3}", 1, 1, 1, 1, 0);
        lengths("(a+){2,3}", 0, 0, 1, 1, 1, 1);
        lengths("(a|bc){2,2}", 0, 0, 1, 2, 1, 0);
        lengths("(a{1,2}){2,2}", 0, 0, 1, 1, 1, 0);
        lengths("(a*)*", 1, 1, 1, 1);
        lengths("(a?)+", 1, 1, 1, 1);
        for (String before : new String[] {"b", "b(", "(b)("}) {
            String behind = before.endsWith("(") ? ")" : "";
            lengths(before + "a*" + behind, 0, 1, 1, 1, 1);
            lengths(before + "a+" + behind, 0, 0, 1, 1, 1);
            lengths(before + "a?" + behind, 0, 1, 1, 0, 0);
            lengths(before + "a{1,2}" + behind, 0, 0, 1, 1, 0);
            lengths(before + "ac" + behind, 0, 0, 0, 1, 0);
        }
    }

    private static void wordsOfSigns() {
        Check.sentence("a LETTER itself; . any one; [ ] any one of these, or with ^ any other one");
        for (int letter = 0; letter < 9; letter++) {
            String c = LETTERS.substring(letter, letter + 1);
            RosterRules x = of(c, "[" + c + "]", "[^" + c + "]", ".");
            for (int other = 0; other < 9; other++) {
                boolean same = other == letter;
                due(c, x.state(0, x.state(0, 0, other), 9), same ? 1 : 0);
                due("[" + c + "]", x.state(1, x.state(1, 0, other), 9), same ? 1 : 0);
                due("[^" + c + "]", x.state(2, x.state(2, 0, other), 9), same ? 0 : 1);
                due(".", x.state(3, x.state(3, 0, other), 9), 1);
            }
        }
        lengths("[aab]", 0, 2, 0);
        lengths("[^aab]", 0, 7, 0);
        lengths("ab|c|cd", 0, 1, 2, 0);
        lengths("a|a", 0, 1, 0);
        lengths("a(b|c)d", 0, 0, 0, 2, 0);
        lengths("ab|cd", 0, 0, 2, 0, 0);
        lengths("(ab|c)*", 1, 1, 2, 3, 5, 8);
        lengths("a(bc){2,2}", 0, 0, 0, 0, 0, 1, 0);
        lengths("(a|b)(c|d){2,3}", 0, 0, 0, 8, 16, 0);
        lengths("ab*", 0, 1, 1, 1);
        lengths("(ab)*", 1, 0, 1, 0, 1);
    }

    // ---- THE AUTOMATON, promise 19

    private static void completeAutomaton() {
        Check.sentence("the least one that is complete: it has for each LETTER from each state just one state");
        RosterRules x = of("abc", ".*", "a*", "(.|-)*a.{2,2}", ".", "abcdefgh-a", ".*a.{8,8}");
        int[] states = {5, 1, 2, 8, 3, 12, 512};
        for (int k = 0; k < states.length; k++) {
            due("states of " + k, x.law(k, 3), states[k]);
        }
        for (int k = 0; k < 6; k++) {
            for (int s = 0; s < states[k]; s++) {
                for (int letter = 0; letter < 9; letter++) {
                    int to = x.state(k, s, letter);
                    Check.holds("from " + s + " by " + letter + " to " + to, to >= 0 && to < states[k]);
                }
            }
        }
        RosterRules y = of(".*a.{8,8}");
        for (int letter = 0; letter < 9; letter++) {
            int to = y.state(0, 511, letter);
            Check.holds("from the last one by " + letter + " to " + to, to >= 0 && to < 512);
        }
    }

    private static void leastAutomaton() {
        Check.sentence("THE AUTOMATON of a PATTERN is the least one");
        RosterRules x = of("a|a", "(a|b)(c|d)", "[ab][cd]", "ac|ad|bc|bd", "(a*b*)*", "[ab]*", "a?a?a?", ".*.*", "(..)*|.(..)*", "a(b|c)|d(b|c)");
        int[] states = {3, 4, 4, 4, 2, 2, 5, 1, 1, 4};
        for (int k = 0; k < states.length; k++) {
            due("states of " + k, x.law(k, 3), states[k]);
        }
    }

    /**
     * Of each of these, found by a search, some states that lead apart by one letter alone, - or h,
     * or differ only in whether a row may end in them, meet in the table in which the program
     * looks for equal ones. How many states there are Model says, too.
     */
    private static void statesThatAreNearlyAlike() {
        Check.sentence("THE AUTOMATON of a PATTERN is the least one");
        String[] patterns = {"(e|.+[-dd-]+.?)?[fa].", "(d?(he?|-)(c*|[fe]*).)|[d]?", ".*[e]-+(-.)*(.?-)[a]((.[g])+)?",
            ".*([-])[^h]*(.).(([-h]-[^-])?.[chc])", ".*.(([^-]+)-)[h-]+([h]..(.[-f]))?",
            ".*(.)[^h]+..[^aa]?.((.?)[^h]((.)+))?"};
        int[] states = {9, 9, 20, 46, 42, 24};
        RosterRules x = of(patterns);
        for (int k = 0; k < patterns.length; k++) {
            due("states of " + patterns[k], x.law(k, 3), states[k]);
            Model model = new Model(2, 2);
            for (char c : ("never \"" + patterns[k] + "\" 1;").toCharArray()) {
                model.feed(1, c);
            }
            due("laws of the model", model.read(), 1);
            due("states of " + patterns[k] + " by the model", model.law(0, 3), states[k]);
        }
    }

    private static void numberedAsComeTo() {
        Check.sentence("numbered as they are come to: from state 0 on, of each one by the LETTERS in their order - a b .. h");
        RosterRules x = of("h|-a", "ba|ab", "aaa", "-", "h");
        int[][] first = {{1, 2, 2, 2, 2, 2, 2, 2, 3, 0}, {2, 3, 2, 2, 2, 2, 2, 2, 2, 0}, {2, 2, 2, 2, 2, 2, 2, 2, 2, 0},
            {2, 2, 2, 2, 2, 2, 2, 2, 2, 1}};
        for (int s = 0; s < 4; s++) {
            for (int letter = 0; letter <= 9; letter++) {
                due("h|-a from " + s + " by " + letter, x.state(0, s, letter), first[s][letter]);
            }
        }
        due("ba|ab by -", x.state(1, 0, 0), 1);
        due("ba|ab by a", x.state(1, 0, 1), 2);
        due("ba|ab by b", x.state(1, 0, 2), 3);
        due("ba|ab by c", x.state(1, 0, 3), 1);
        due("ba|ab by ab", x.state(1, 2, 2), 4);
        due("ba|ab by ba", x.state(1, 3, 1), 4);
        due("aaa by a", x.state(2, 0, 1), 2);
        due("aaa by aa", x.state(2, 2, 1), 3);
        due("aaa by aaa", x.state(2, 3, 1), 4);
        due("aaa by aaaa", x.state(2, 4, 1), 1);
        due("aaa by -", x.state(2, 0, 0), 1);
        due("none behind", x.state(2, 1, 1), 1);
        due("- by -", x.state(3, 0, 0), 1);
        due("- by a", x.state(3, 0, 1), 2);
        due("h by -", x.state(4, 0, 0), 1);
        due("h by h", x.state(4, 0, 8), 2);
    }

    private static void mayEnd() {
        Check.sentence("letter 9: whether a row may end in it (1, 0)");
        RosterRules x = of("a", "a*", ".*", "a?b", "(ab)*");
        int[][] due = {{0, 0, 1}, {1, 0}, {1}, {0, 0, 0, 1}, {1, 0, 0}};
        for (int k = 0; k < due.length; k++) {
            due("states of " + k, x.law(k, 3), due[k].length);
            for (int s = 0; s < due[k].length; s++) {
                due("whether " + k + " may end in " + s, x.state(k, s, 9), due[k][s]);
            }
            due("letter 10", x.state(k, 0, 10), BAD);
            due("letter -1", x.state(k, 0, -1), BAD);
        }
    }

    private static void stateThatIsNotThere() {
        Check.sentence("the state to which a LETTER (0 - , 1 a .. 8 h) leads from one");
        RosterRules x = of(".*", "a*", "a", ".*a.{8,8}");
        int[] states = {1, 2, 3, 512};
        for (int k = 0; k < states.length; k++) {
            for (int letter = 0; letter <= 9; letter++) {
                Check.holds("the last one", x.state(k, states[k] - 1, letter) >= 0);
                due("one beyond", x.state(k, states[k], letter), BAD);
                due("-1", x.state(k, -1, letter), BAD);
            }
            due("far", x.state(k, HIGH, 0), BAD);
            due("far", x.state(k, LOW, 9), BAD);
        }
        due("a smaller one in its place", Check.read(x, "never \".*\" 1;".repeat(4)), 4);
        due("its state 0", x.state(3, 0, 8), 0);
        due("no state 1 any more", x.state(3, 1, 8), BAD);
        due("no state 511 any more", x.state(3, 511, 8), BAD);
    }

    private static void noPattern() {
        Check.sentence("NO: it has no PATTERN");
        RosterRules x = Check.with(2, 2, SORTS);
        for (int k : new int[] {0, 1, 2, 5, 6}) {
            due("state of " + k, x.state(k, 0, 0), NO);
            due("its end", x.state(k, 0, 9), NO);
            for (int letter : new int[] {-1, 10, LOW, HIGH}) {
                due("letter " + letter, x.state(k, 0, letter), BAD);
            }
            due("alike " + k, x.alike(k, k), NO);
            due("alike " + k + " and a PATTERN", x.alike(k, 3), NO);
            due("alike a PATTERN and " + k, x.alike(3, k), NO);
            due("words of " + k, x.words(k, 0), -1);
            due("word of " + k, x.word(k, 0), NO);
            due("word far in " + k, x.word(k, HIGH), NO);
            due("word -1 of " + k, x.word(k, -1), BAD);
        }
    }

    // ---- promise 20

    private static void sameWords() {
        Check.sentence("Whether the PATTERNS of two laws have the same WORDS: 1, 0");
        RosterRules x = Check.with(2, 2, "never \"[ab]*\" 1;whole \"(a|b)*\" 999;never \"[ab]+\" 1;whole \"a*\" 1;"
            + "never \".\" 1;whole \"[-abcdefgh]\" 1;never \"[^-]|-\" 1;never \"[^-]\" 1;never \"a{1,2}\" 1;never \"aa?\" 1;"
            + "never \"(a{1,3}){3,3}\" 1;never \"a{3,9}\" 1;never \"a{2,9}\" 1;");
        int[] kinds = {0, 0, 2, 3, 4, 4, 4, 7, 8, 8, 10, 10, 12};
        for (int a = 0; a < kinds.length; a++) {
            for (int b = 0; b < kinds.length; b++) {
                due(a + " and " + b, x.alike(a, b), kinds[a] == kinds[b] ? 1 : 0);
            }
        }
        RosterRules y = of("-*[^-].*", ".+", "abcdefgh-a", "abcdefgh-[a]", "abcdefgh-b", ".*a.{8,8}", ".*[a].{8,8}", ".*b.{8,8}");
        due("as many states, but one way is another", y.alike(0, 1), 0);
        due("twelve states", y.alike(2, 3), 1);
        due("twelve states, but one way is another", y.alike(2, 4), 0);
        due("512 states", y.alike(5, 6), 1);
        due("512 states, but the ways are others", y.alike(5, 7), 0);
    }

    private static void alikeRefused() {
        Check.sentence("BAD; NO: one has none");
        RosterRules x = Check.with(2, 2, SORTS);
        for (int k : new int[] {-1, 7, 16, LOW, HIGH}) {
            for (int other : new int[] {0, 3, 4, 6, 7, -1, HIGH}) {
                due(k + " and " + other, x.alike(k, other), BAD);
                due(other + " and " + k, x.alike(other, k), BAD);
            }
        }
        due("none", x.alike(0, 6), NO);
        due("one", x.alike(0, 3), NO);
        due("the other", x.alike(4, 6), NO);
        due("both", x.alike(3, 4), 1);
    }

    // ---- promise 21

    private static void wordsOfLengths() {
        Check.sentence("How many WORDS of n LETTERS (0 .. 40)");
        RosterRules x = of("a*", "a+", "(ab)*", "a", "[ab]*");
        for (int n = 0; n <= 40; n++) {
            due("a* of " + n, x.words(0, n), 1);
            due("a+ of " + n, x.words(1, n), n == 0 ? 0 : 1);
            due("(ab)* of " + n, x.words(2, n), n % 2 == 0 ? 1 : 0);
            due("a of " + n, x.words(3, n), n == 1 ? 1 : 0);
            due("[ab]* of " + n, x.words(4, n), 1L << n);
        }
    }

    private static void wordsWrap() {
        Check.sentence("(of 64 bits, wrapping)");
        RosterRules x = of(".*", "[^-]*", "[^-a]*", "[^-]*a?");
        long nine = 1;
        long eight = 1;
        long seven = 1;
        for (int n = 0; n <= 40; n++) {
            due("9^" + n, x.words(0, n), nine);
            due("8^" + n, x.words(1, n), eight);
            due("7^" + n, x.words(2, n), seven);
            nine *= 9;
            eight *= 8;
            seven *= 7;
        }
        due("8^21 is below 0", x.words(1, 21), Long.MIN_VALUE);
        due("8^22 is none", x.words(1, 22), 0);
        due("9^40", x.words(0, 40), BigInteger.valueOf(9).pow(40).longValue());
    }

    private static void wordsNone() {
        Check.sentence("-1: none such law, or without a PATTERN, or n");
        RosterRules x = Check.with(2, 2, SORTS);
        for (int n : new int[] {-1, 41, 42, LOW, HIGH}) {
            due("n " + n, x.words(3, n), -1);
            due("n " + n + " without a PATTERN", x.words(0, n), -1);
            due("n " + n + " without a law", x.words(7, n), -1);
        }
        for (int n : new int[] {0, 1, 40}) {
            due("a law", x.words(3, n), n == 1 ? 1 : 0);
            for (int k : new int[] {0, 1, 2, 5, 6, 7, 16, -1, LOW, HIGH}) {
                due("law " + k, x.words(k, n), -1);
            }
        }
    }

    // ---- promise 22

    private static void word(String pattern, String due) {
        RosterRules x = of(pattern);
        for (int i = 0; i < due.length(); i++) {
            due("letter " + i + " of " + pattern, x.word(0, i), LETTERS.indexOf(due.charAt(i)));
        }
        due("behind the last letter of " + pattern, x.word(0, due.length()), NO);
        due("far behind " + pattern, x.word(0, HIGH), NO);
    }

    private static void shortestWord() {
        Check.sentence("LETTER i (as in state()) of the shortest WORD of a PATTERN");
        for (int letter = 0; letter < 9; letter++) {
            word(LETTERS.substring(letter, letter + 1), LETTERS.substring(letter, letter + 1));
        }
        word("aaa|hh", "hh");
        word("-----|h", "h");
        word("a+b+", "ab");
        word("(ab){2,4}", "abab");
        word("a{9,9}h", "aaaaaaaaah");
        word("abcdefgh-a", "abcdefgh-a");
        word("----------", "----------");
        word("a{3,9}", "aaa");
        word("(a|-b)(c|-d)", "ac");
        word("b(-*)c", "bc");
    }

    private static void firstOfShortest() {
        Check.sentence("of several the first by the order of LETTERS");
        word(".", "-");
        word("[hgf]", "f");
        word("[^-]", "a");
        word("[^-a]{2,3}", "bb");
        word("hh|gb|ga|h-", "ga");
        word("a-|-h", "-h");
        word("ba|ab", "ab");
        word("(b|a)(-|h)", "a-");
        word("a[^-]|ah-", "aa");
        word("..........", "----------");
    }

    private static void notSoManyLetters() {
        Check.sentence("NO: it has no PATTERN, or not so many LETTERS");
        for (String pattern : new String[] {"a*", "a?", "(abc)*", "a{0,9}", "(a?){9,9}", ".*", "(a|b*)", "(a*){2,3}"}) {
            RosterRules x = of(pattern);
            for (int i : new int[] {0, 1, 9, 40, HIGH}) {
                due("the shortest one of " + pattern + " has no letter " + i, x.word(0, i), NO);
            }
            due("-1 of " + pattern, x.word(0, -1), BAD);
        }
        RosterRules y = of("ab");
        due("the last letter", y.word(0, 1), 2);
        for (int i : new int[] {2, 3, 40, HIGH}) {
            due("no letter " + i, y.word(0, i), NO);
        }
    }

    private static void wordRefused() {
        Check.sentence("NO as told; of both BAD first");
        RosterRules x = Check.with(2, 2, SORTS);
        for (int i : new int[] {-1, -2, LOW}) {
            for (int k = 0; k < 7; k++) {
                due("i " + i, x.word(k, i), BAD);
            }
        }
        for (int k : new int[] {-1, 7, 16, LOW, HIGH}) {
            for (int i : new int[] {-1, 0, 1, 40, HIGH}) {
                due("law " + k, x.word(k, i), BAD);
            }
        }
    }
}
