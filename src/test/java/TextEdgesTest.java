/** Each sentence under Terms about THE TAPE, the TOKENS and THE FAULT that names an edge, by itself. */
public final class TextEdgesTest {
    private static final String LETTERS = "-abcdefgh";
    /** A law of each sort, token by token: what stands in the place of a NUMBER is fine in it. */
    private static final String[][] SORTS = {{"skill", "1", ";"}, {"rest", "1", "2", ";"},
        {"hours", "1", "2", "3", "4", ";"}, {"never", "\"a\"", "1", ";"}, {"whole", "\"a\"", "1", ";"},
        {"fair", "a", "1", ";"}, {"cover", "a", "1", "2", "3", ";"}};

    /** A faulty law that goes to its ; so that another text can stand behind it. */
    private record Faulty(String text, int number, int place) {
    }

    private static final Faulty[] FAULTS = {new Faulty("@;", 1, 0), new Faulty("abcdefghi;", 1, 0),
        new Faulty("skill 1234567;", 1, 6), new Faulty("never \"a\t\" 1;", 1, 6), new Faulty(";", 2, 0),
        new Faulty("skill x;", 2, 6), new Faulty("fair i 1;", 2, 5), new Faulty("never \"a**\" 1;", 2, 9),
        new Faulty("whole \"[^-abcdefgh]\" 1;", 2, 18), new Faulty("never \"aaaaaaaaaaa\" 1;", 3, 6),
        new Faulty("skill 1001;", 4, 6), new Faulty("hours 2 1 1 1;", 4, 8), new Faulty("never \"a{2,1}\" 1;", 4, 11)};

    public static void main(String[] args) {
        sixteenLaws();
        seventeenthLaw();
        fullTape();
        anyBytes();
        tapeEmptyThen();
        textWithoutLaw();
        longestTokens();
        blanks();
        wordsOfEight();
        numbersOfSix();
        patternsOfForty();
        bytesOfPatterns();
        patternsThatDoNotEnd();
        noTokenAtFirstByte();
        tokenThatCannotStand();
        textEnd();
        byteThatCannotStand();
        bytesOfTimesAndChoices();
        tenPlaces();
        placesAtClosingQuote();
        numbersInRange();
        daysInRange();
        highNotBelowLow();
        coverInRange();
        weightsInRange();
        timesInRange();
        noLetterLeft();
        firstFaultOfTwoLaws();
        firstFaultWithinLaw();
        faultLeavesNothing();
        Check.end();
    }

    private static void fault(String text, int number, int place) {
        Check.fault(text, number, place);
    }

    private static void fine(String text, int laws) {
        Check.fine(text, laws);
    }

    // ---- THE TAPE and LAWS

    private static void sixteenLaws() {
        Check.sentence("LAWS, 16 at most");
        for (int laws : new int[] {1, 15, 16}) {
            fine("skill 1;".repeat(laws), laws);
            fine("skill 1;".repeat(laws) + " \n ", laws);
        }
        StringBuilder text = new StringBuilder();
        for (int k = 0; k < 16; k++) {
            text.append("cover a 1 1 ").append(100 + k).append(';');
        }
        RosterRules x = Check.with(1, 1, text.toString());
        for (int k = 0; k < 16; k++) {
            Check.due("weight of law " + k, x.law(k, 1), 100 + k);
            Check.due("place of law " + k, x.law(k, 2), 16 * k);
            Check.due("broken of law " + k, x.broken(k, -1), 1);
        }
        Check.due("score of sixteen laws", x.score(), 16 * 100 + 120);
    }

    private static void seventeenthLaw() {
        Check.sentence("3 the first TOKEN of a 17th law, whatever it is");
        String sixteen = "skill 1;".repeat(16);
        String[] tokens = {"skill 1;", "rest 1 2;", "nolaw", "a", "abcdefgh", "0", "999999", ";", "\"a\"", "\"*\"", "\"\"",
            "\"aaaaaaaaaaa\"", "skill 1001;", "skill"};
        for (String token : tokens) {
            fault(sixteen + token, 3, 128);
            fault(sixteen + " \n" + token, 3, 130);
        }
        fault(sixteen + "@", 1, 128);
        fault(sixteen + "abcdefghi", 1, 128);
        fault(sixteen + "\"a", 1, 128);
        fault("skill 1;".repeat(15) + "skill 1001;skill 1;", 4, 126);
        StringBuilder text = new StringBuilder();
        for (int k = 0; k < 16; k++) {
            text.append("fair a ").append(k).append(';');
        }
        RosterRules x = Check.with(2, 2, text.toString());
        Check.due("17 laws", Check.read(x, "skill 1;".repeat(17)), -13);
        for (int k = 0; k < 16; k++) {
            Check.due("the law " + k + " stays", x.law(k, 1), k);
            Check.due("the law " + k + " stays", x.law(k, 0), 5);
        }
    }

    private static void fullTape() {
        Check.sentence("THE TAPE (1500 bytes at most, any");
        RosterRules x = new RosterRules(2, 2);
        Check.feed(x, " ".repeat(1492) + "skill 7;");
        Check.due("1500 bytes", x.count(1), 1500);
        Check.due("one more", x.feed(1, ';'), Check.FULL);
        Check.due("a law at the tape's end", x.read(), 1);
        Check.due("its place", x.law(0, 2), 1492);
        Check.due("its weight", x.law(0, 1), 7);
        fault("\n".repeat(1493) + "skill 7", 2, 1500);
        fault(" ".repeat(1499) + "@", 1, 1499);
        fault(" ".repeat(1492) + "never \"a", 1, 1498);
        fault(" ".repeat(1495) + "skill", 2, 1500);
    }

    private static void anyBytes() {
        Check.sentence("THE TAPE (1500 bytes at most, any");
        for (int b = 0; b < 256; b++) {
            RosterRules x = new RosterRules(1, 1);
            Check.due("feed of byte " + b, x.feed(1, b), 1);
            boolean blank = b == 10 || b == 32;
            boolean token = b >= 'a' && b <= 'z' || b >= '0' && b <= '9' || b == ';';
            Check.due("read of byte " + b, x.read(), blank ? 0 : token ? -12 : -11);
            Check.due("place of byte " + b, x.place(), blank ? Check.NO : 0);
        }
    }

    private static void tapeEmptyThen() {
        Check.sentence("it is empty then, also with a FAULT");
        RosterRules x = new RosterRules(2, 2);
        Check.due("a good text", Check.read(x, "skill 1;"), 1);
        Check.due("empty", x.count(1), 0);
        for (Faulty f : FAULTS) {
            Check.due(f.text, Check.read(x, f.text), -10 - f.number);
            Check.due("empty behind " + f.text, x.count(1), 0);
        }
        Check.due("half a law", Check.read(x, "skill 1"), -12);
        Check.due("its other half", Check.read(x, ";"), -12);
        Check.due("stands at 0", x.place(), 0);
        Check.due("a text behind it begins at 0", Check.read(x, " fair a 2;"), 1);
        Check.due("the place of its law", x.law(0, 2), 1);
        Check.due("nothing is left to read", x.read(), 0);
        nothingOfALongerText("never \"a\" 1;", "never \"a", 1, 6);
        nothingOfALongerText("never \"a\" 1;", "never \"", 1, 6);
        nothingOfALongerText("skill 1;", "skill 1", 2, 7);
        nothingOfALongerText("skill 1;", "skill ", 2, 6);
        nothingOfALongerText("rest 1 2;", "rest 1", 2, 6);
        nothingOfALongerText("skill 1;skill 1;", "skill 1;skil", 2, 8);
    }

    private static void nothingOfALongerText(String longer, String text, int number, int place) {
        RosterRules x = Check.with(1, 1, longer);
        Check.due(text + " behind " + longer, Check.read(x, text), -10 - number);
        Check.due("its place", x.place(), place);
    }

    private static void textWithoutLaw() {
        Check.sentence("text = {law ';'}");
        fine("", 0);
        fine(" ", 0);
        fine("\n", 0);
        fine(" ".repeat(1500), 0);
        fault(";", 2, 0);
        fault("  ;", 2, 2);
        fault("skill 1;;", 2, 8);
        RosterRules x = Check.with(2, 2, "cover a 1 1 1;");
        Check.due("a law's score", x.score(), 2);
        Check.due("no text", x.read(), 0);
        Check.due("no law any more", x.broken(0, -1), Check.BAD);
        Check.due("no score", x.score(), 0);
    }

    // ---- TOKENS

    private static void longestTokens() {
        Check.sentence("TOKENS, the longest that can be");
        fine("skill1;", 1);
        fine("rest1 2;", 1);
        fine("fair a1;cover b1 2 3;never\"a\"1;whole\"a\"1;", 4);
        fault("skillskill 1;", 1, 0);
        fault("skillrest 1;", 1, 0);
        fault("faira 1;", 2, 0);
        fault("rest 12;", 2, 7);
        fault("rest1;", 2, 5);
        fine("rest 1 2;", 1);
        RosterRules x = Check.with(1, 1, "skill 987;");
        Check.due("all the digits", x.law(0, 1), 987);
    }

    private static void blanks() {
        Check.sentence("BLANKS (10, 32) between where there are some");
        fine("skill \n\n  \n1 ; \n", 1);
        for (int b = 0; b < 256; b++) {
            String text = "skill" + (char) b + "1;";
            if (b == 10 || b == 32 || b >= '0' && b <= '9') {
                fine(text, 1);
            } else if (b >= 'a' && b <= 'z') {
                fault(text, 2, 0);
            } else {
                fault(text, b == ';' ? 2 : 1, 5);
            }
        }
    }

    private static void wordsOfEight() {
        Check.sentence("WORDS (letters a .. z, 8 at most)");
        for (String word : new String[] {"z", "abcdefg", "abcdefgh", "zzzzzzzz"}) {
            fault(word, 2, 0);
            fault("fair " + word + " 1;", 2, 5);
        }
        for (String word : new String[] {"abcdefghi", "zzzzzzzzz", "skillskill", "a".repeat(1000)}) {
            fault(word, 1, 0);
            fault("skill 1;" + word, 1, 8);
            fault("fair " + word + " 1;", 1, 5);
        }
    }

    private static void numbersOfSix() {
        Check.sentence("NUMBERS (digits, 6 at most)");
        fine("skill 000000;", 1);
        fine("skill 001000;", 1);
        fine("hours 099999 099999 000001 000000;", 1);
        RosterRules x = Check.with(1, 1, "skill 000907;");
        Check.due("noughts before it", x.law(0, 1), 907);
        fault("skill 999999;", 4, 6);
        fault("skill 100000;", 4, 6);
        fault("123456", 2, 0);
        for (String number : new String[] {"0000000", "0000001", "0001000", "1234567", "9999999", "1".repeat(500)}) {
            fault("skill " + number + ";", 1, 6);
            fault(number, 1, 0);
        }
    }

    private static void patternsOfForty() {
        Check.sentence("bytes 33 .. 126 but \" , 40 at most, then \"");
        for (int bytes : new int[] {3, 39, 40}) {
            fine("never \"[" + "a".repeat(bytes - 2) + "]\" 1;", 1);
        }
        for (int bytes : new int[] {41, 42, 80, 1000}) {
            fault("never \"[" + "a".repeat(bytes - 2) + "]\" 1;", 1, 6);
        }
        fault("never \"" + "*".repeat(40) + "\" 1;", 2, 7);
        fault("never \"" + "*".repeat(41) + "\" 1;", 1, 6);
        fault("never \"\" 1;", 2, 7);
        fault("skill \"" + "*".repeat(40) + "\";", 2, 6);
        fault("skill \"" + "*".repeat(41) + "\";", 1, 6);
        RosterRules x = Check.with(1, 1, "never \"" + "(".repeat(19) + "a+" + ")".repeat(19) + "\" 1;never \"a+\" 1;");
        Check.due("forty bytes have the words of two", x.alike(0, 1), 1);
        RosterRules y = Check.with(1, 1, "never \"[" + "a".repeat(37) + "b]\" 1;never \"[ab]\" 1;");
        Check.due("also the last one of forty", y.alike(0, 1), 1);
        fault("never \"" + "(".repeat(15) + "abcdefgh-a" + ")".repeat(14) + "\" 1;", 2, 46);
        fault("never \"" + "(".repeat(14) + "abcdefgh-a." + ")".repeat(14) + "\" 1;", 3, 6);
        fault("never \"" + "(".repeat(39) + "\" 1;", 2, 46);
        fault("never \"" + "(".repeat(40) + "\" 1;", 2, 47);
    }

    private static void bytesOfPatterns() {
        Check.sentence("bytes 33 .. 126 but \"");
        for (int b = 0; b < 256; b++) {
            char c = (char) b;
            boolean taker = LETTERS.indexOf(c) >= 0 || c == '.';
            String alone = "never \"" + c + "\" 1;";
            String behind = "never \"a" + c + "\" 1;";
            if (b < 33 || b > 126) {
                fault(alone, 1, 6);
                fault(behind, 1, 6);
            } else if (c == '"') {
                fault(alone, 2, 7);
                fault(behind, 1, 9);
            } else {
                if (taker) {
                    fine(alone, 1);
                } else {
                    fault(alone, 2, c == '(' || c == '[' ? 8 : 7);
                }
                if (taker || "*+?".indexOf(c) >= 0) {
                    fine(behind, 1);
                } else {
                    fault(behind, 2, "([{|".indexOf(c) >= 0 ? 9 : 8);
                }
            }
        }
    }

    private static void patternsThatDoNotEnd() {
        Check.sentence("or does not end (at its first byte)");
        fault("\"", 1, 0);
        fault("never \"", 1, 6);
        fault("never \"a", 1, 6);
        fault("never \"*", 1, 6);
        fault("never \"" + "a".repeat(40), 1, 6);
        fault("never \"" + "a".repeat(41), 1, 6);
        fault("never \"a 1;", 1, 6);
        fault("never \"a \" 1;", 1, 6);
        fault("never \"a\n\" 1;", 1, 6);
        fault("skill 1;\n never \"ab", 1, 16);
        fault("skill \"ab", 1, 6);
    }

    // ---- THE FAULT

    private static void noTokenAtFirstByte() {
        Check.sentence("1 no TOKEN begins there, or it is too long, or does not end (at its first byte)");
        String[] none = {"@", "A", "-", "-1", "'", "\u0000", "\u00ff", "abcdefghi", "1234567", "\"a", "\"a\t\""};
        for (String thing : none) {
            for (String[] sort : SORTS) {
                StringBuilder text = new StringBuilder("skill 1;\n");
                for (String token : sort) {
                    fault(text + thing + " 1;", 1, text.length());
                    text.append(token).append(' ');
                }
                fault(text + thing, 1, text.length());
            }
        }
    }

    private static void tokenThatCannotStand() {
        Check.sentence("2 a TOKEN, or byte of a PATTERN, that cannot stand there (at it");
        String[] tokens = {"zz", "abcdefgh", "i", "7", "\"-\"", "\"*\"", ";"};
        for (String[] sort : SORTS) {
            StringBuilder text = new StringBuilder();
            for (String token : sort) {
                for (String other : tokens) {
                    if (kindOf(other) != kindOf(token) || kindOf(other) == 'w') {
                        fault(text + " " + other + " 1;", 2, text.length() + 1);
                        fault("fair a 1;" + text + "\n" + other + " 1;", 2, 10 + text.length());
                    }
                }
                text.append(' ').append(token);
            }
            fault(text + ";", 2, text.length());
        }
        for (String[] sort : SORTS) {
            for (int i = 0; i < sort[0].length(); i++) {
                fault(sort[0].substring(0, i) + "z" + sort[0].substring(i + 1) + " 1;", 2, 0);
                fault(sort[0].substring(0, i) + sort[0].substring(i + 1) + " 1;", 2, 0);
            }
            fault(sort[0] + "s 1;", 2, 0);
        }
        fault("fair i 1;", 2, 5);
        fault("fair aa 1;", 2, 5);
        fault("cover i 1 1 1;", 2, 6);
        for (char c = 'a'; c <= 'z'; c++) {
            if (c <= 'h') {
                fine("fair " + c + " 1;cover " + c + " 1 1 1;", 2);
            } else {
                fault("fair " + c + " 1;", 2, 5);
                fault("cover " + c + " 1 1 1;", 2, 6);
            }
        }
    }

    private static char kindOf(String token) {
        char c = token.charAt(0);
        return c >= 'a' && c <= 'z' ? 'w' : c >= '0' && c <= '9' ? 'n' : c;
    }

    private static void textEnd() {
        Check.sentence("the text's end: its length");
        for (String[] sort : SORTS) {
            StringBuilder text = new StringBuilder();
            for (int i = 0; i < sort.length - 1; i++) {
                text.append(i > 0 ? " " : "").append(sort[i]);
                fault(text.toString(), 2, text.length());
                fault(text + " ", 2, text.length() + 1);
                fault(text + " \n\n", 2, text.length() + 3);
                fault("skill 1;" + text, 2, 8 + text.length());
            }
        }
    }

    private static void byteThatCannotStand() {
        Check.sentence("or byte of a PATTERN, that cannot stand there (at it");
        String[] begins = {"*", "+", "?", "{", "|", ")", "]", "}", "^", ",", "1", "i", "z", "A", "!", "~", ";", ""};
        for (String b : begins) {
            fault("never \"" + b + "\" 1;", 2, 7);
            fault("never \"a|" + b + "\" 1;", 2, 9);
            fault("never \"(" + b + "\" 1;", 2, 8);
            fault("skill 1;never \"a(b|" + b + "\" 1;", 2, 19);
        }
        String[] repeats = {"*", "+", "?", "{1,1}"};
        for (String first : repeats) {
            for (String second : repeats) {
                fault("never \"a" + first + second + "\" 1;", 2, 8 + first.length());
                fine("never \"(a" + first + ")" + second + "\" 1;", 1);
            }
        }
        fault("never \"(a\" 1;", 2, 9);
        fault("never \"((a)\" 1;", 2, 11);
        fault("never \"(a))\" 1;", 2, 10);
        fault("never \"[a\" 1;", 2, 9);
        fault("never \"[]\" 1;", 2, 8);
        fault("never \"[^]\" 1;", 2, 9);
        fault("never \"[^^a]\" 1;", 2, 9);
        fault("never \"[a^]\" 1;", 2, 9);
        fault("never \"[.]\" 1;", 2, 8);
        fault("never \"[i]\" 1;", 2, 8);
        fault("never \"a{\" 1;", 2, 9);
        fault("never \"a{,2}\" 1;", 2, 9);
        fault("never \"a{1}\" 1;", 2, 10);
        fault("never \"a{1,\" 1;", 2, 11);
        fault("never \"a{1,}\" 1;", 2, 11);
        fault("never \"a{1,2\" 1;", 2, 12);
        fault("never \"a{1,10}\" 1;", 2, 12);
        fault("never \"a{10,2}\" 1;", 2, 10);
    }

    private static void bytesOfTimesAndChoices() {
        Check.sentence("'{' digit ',' digit '}'");
        for (char c = 33; c <= 126; c++) {
            boolean digit = c >= '0' && c <= '9';
            boolean letter = LETTERS.indexOf(c) >= 0;
            if (c != '"') {
                fault("never \"a{1,0" + c + "\" 1;", 4, 11);
                fineOr(digit, "never \"a{" + c + ",9}\" 1;", 2, 9);
                fineOr(c == ',', "never \"a{1" + c + "9}\" 1;", 2, 10);
                fineOr(digit && c != '0', "never \"a{1," + c + "}\" 1;", c == '0' ? 4 : 2, 11);
                fineOr(c == '}', "never \"a{1,9" + c + "\" 1;", 2, 12);
                fineOr(letter || c == '^', "never \"[" + c + "a]\" 1;", 2, 8);
                fineOr(letter, "never \"[^" + c + "a]\" 1;", 2, 9);
                fineOr(letter || c == ']', "never \"[a" + c + (c == ']' ? "" : "]") + "\" 1;", 2, 9);
            }
        }
    }

    private static void fineOr(boolean good, String text, int number, int place) {
        if (good) {
            fine(text, 1);
        } else {
            fault(text, number, place);
        }
    }

    private static void tenPlaces() {
        Check.sentence("each LETTER outside of [ ], . and [ ] is one, within {n,m} m times over");
        places("abcdefgh-a", 10);
        places("..........", 10);
        places("[ab][^ab][ab][ab][ab][ab][-][ab]a.", 10);
        places("[-abcdefgh]", 1);
        places("[aaaaaaaaaaaaaaaaaaaaaaaaaaaaaaaaaaaaaa]", 1);
        places("a|b|c|d|e|f|g|h|-|.", 10);
        places("a*b+c?d*e+f?g*h+-?.*", 10);
        places("a{0,9}b", 10);
        places("(ab){1,5}", 10);
        places("(ab?c|d|e){2,2}", 10);
        places("((a{2,2}){1,2}b){1,2}", 10);
        places("(a{1,3}){3,3}b{0,1}", 10);
        places("(((a{1,2}){1,2}){1,2}b)c", 10);
        places("a(bc){2,2}", 5);
        places("(ab)(c|d)(e){1,3}", 7);
        places("(b(cd){1,2}){2,2}", 10);
        String[] more = {"abcdefgh-ab", "...........", "[ab][ab][ab][ab][ab][ab][ab][ab]a.b", "a|b|c|d|e|f|g|h|-|.|a",
            "a{0,9}bc", "a{0,9}b?c*", "(ab){1,5}c", "(ab){0,6}", "(abc){1,4}", "((a{2,2}){1,2}b){1,2}c", "(a{1,3}){4,4}",
            "(a{9,9}){9,9}", "((((a{1,9}){1,9}){1,9}){1,9}){1,9}", "(abcdef){1,2}", "a*b*c*d*e*f*g*h*-*.*a*"};
        for (String pattern : more) {
            fault("never \"" + pattern + "\" 1;", 3, 6);
            fault("skill 1; whole\"" + pattern + "\" 1;", 3, 14);
        }
    }

    private static void places(String pattern, int places) {
        RosterRules x = Check.with(2, 2, "never \"" + pattern + "\" 1;");
        Check.due("PLACES of " + pattern, x.law(0, 4), places);
    }

    private static void placesAtClosingQuote() {
        Check.sentence("(at its \" ; when its closing \" is come to)");
        String eleven = "aaaaaaaaaaa";
        fault("never \"" + eleven + "**\" 1;", 2, 19);
        fault("never \"" + eleven + "|\" 1;", 2, 19);
        fault("never \"" + eleven + "{2,1}\" 1;", 4, 21);
        fault("never \"(" + eleven + "\" 1;", 2, 19);
        fault("never \"" + eleven + "[^-abcdefgh]\" 1;", 2, 29);
        fault("never \"(a{9,9}){9,9}i\" 1;", 2, 20);
        fault("never \"" + eleven + "\t\" 1;", 1, 6);
        fault("never \"" + eleven + "\" 1001;", 3, 6);
        fault("never \"" + eleven + "\" @", 3, 6);
        fault("never \"" + eleven + "\"", 3, 6);
    }

    // ---- ranges: the text stands around the number, at whose first byte the fault is

    private static void range(String before, String behind, int low, int high) {
        for (int value : new int[] {low, low + 1, high - 1, high}) {
            if (value >= low && value <= high) {
                fine(before + value + behind, 1);
            }
        }
        for (int value : new int[] {high + 1, high + 10, 999999}) {
            fault(before + value + behind, 4, before.length());
            fault("skill 1;" + before + value + behind, 4, 8 + before.length());
        }
        if (low > 0) {
            fault(before + (low - 1) + behind, 4, before.length());
            fault(before + "0" + behind, 4, before.length());
        }
        fault(before + "-1" + behind, 1, before.length());
    }

    private static void numbersInRange() {
        Check.sentence("4 a NUMBER out of its range (at it): M 0 .. 10000");
        range("rest ", " 1;", 0, 10000);
        Check.sentence("A and B 0 .. 99999");
        range("hours ", " 99999 1 1;", 0, 99999);
        range("hours 0 ", " 1 1;", 0, 99999);
    }

    private static void daysInRange() {
        Check.sentence("N 1 .. D");
        range("hours 0 0 ", " 1;", 1, 14);
        for (int days : new int[] {-3, 1, 2, 20, 21, 22}) {
            int most = Math.max(1, Math.min(21, days));
            RosterRules x = new RosterRules(1, days);
            Check.due("N 1 of " + days, Check.read(x, "hours 0 0 1 1;"), 1);
            Check.due("N D of " + days, Check.read(x, "hours 0 0 " + most + " 1;"), 1);
            Check.due("N D + 1 of " + days, Check.read(x, "hours 0 0 " + (most + 1) + " 1;"), -14);
            Check.due("its place", x.place(), 10);
            Check.due("N 0 of " + days, Check.read(x, "hours 0 0 0 1;"), -14);
            Check.due("its place", x.place(), 10);
        }
    }

    private static void highNotBelowLow() {
        Check.sentence("B not less than A");
        range("hours 7 ", " 1 1;", 7, 99999);
        range("hours 99999 ", " 1 1;", 99999, 99999);
        range("cover a 1 ", " 1;", 1, 8);
        range("cover a 8 ", " 1;", 8, 8);
        fault("hours 1 0 0 1;", 4, 8);
    }

    private static void coverInRange() {
        Check.sentence("(of cover 0 .. 8)");
        range("cover h ", " 8 1;", 0, 8);
        range("cover h 0 ", " 1;", 0, 8);
        RosterRules x = new RosterRules(1, 1);
        Check.due("8 of one person", Check.read(x, "cover a 8 8 1;"), 1);
        Check.due("are seven too few with one", x.put(0, 0, 0), -1);
    }

    private static void weightsInRange() {
        Check.sentence("W 0 .. 1000");
        range("skill ", ";", 0, 1000);
        range("rest 5 ", ";", 0, 1000);
        range("hours 5 6 7 ", ";", 0, 1000);
        range("never \"a\" ", ";", 0, 1000);
        range("whole \"a\" ", ";", 0, 1000);
        range("fair a ", ";", 0, 1000);
        range("cover a 1 2 ", ";", 0, 1000);
    }

    private static void timesInRange() {
        Check.sentence("of {n,m}: m is 0, or less than n (at the second digit)");
        for (int n = 0; n <= 9; n++) {
            for (int m = 0; m <= 9; m++) {
                String times = "{" + n + "," + m;
                if (m == 0 || m < n) {
                    fault("never \"a" + times + "}\" 1;", 4, 11);
                    fault("never \"a" + times + "x\" 1;", 4, 11);
                    fault("never \"a" + times + "\" 1;", 4, 11);
                    fault("skill 1;never \"(ab)" + times + "}\" 1;", 4, 22);
                } else {
                    fine("never \"a" + times + "}\" 1;", 1);
                }
            }
        }
    }

    private static void noLetterLeft() {
        Check.sentence("A [ ^ ] that leaves no LETTER: 2 at its ]");
        fault("never \"[^-abcdefgh]\" 1;", 2, 18);
        fault("never \"[^hgfedcba-]\" 1;", 2, 18);
        fault("never \"[^-abcdefgh-aa]\" 1;", 2, 21);
        fault("never \"a[^-abcdefgh]*\" 1;", 2, 19);
        fault("never \"[^-abcdefghi]\" 1;", 2, 18);
        fault("never \"[^-abcdefgh\" 1;", 2, 18);
        fine("never \"[-abcdefgh]\" 1;", 1);
        for (int left = 0; left < 9; left++) {
            String others = LETTERS.substring(0, left) + LETTERS.substring(left + 1);
            RosterRules x = Check.with(1, 1, "never \"[^" + others + "]\" 1;");
            Check.due("what [^" + others + "] leaves", x.word(0, 0), left);
            Check.due("alone", x.words(0, 1), 1);
        }
    }

    private static void firstFaultOfTwoLaws() {
        Check.sentence("THE FAULT is the first one that is met");
        for (Faulty first : FAULTS) {
            fault(first.text, first.number, first.place);
            fault("skill 1;\n" + first.text, first.number, 9 + first.place);
            for (Faulty second : FAULTS) {
                fault(first.text + second.text, first.number, first.place);
            }
        }
    }

    private static void faultLeavesNothing() {
        Check.sentence("also with a FAULT");
        String[] cut = {"never \"(((a\" 1;", "never \"(a|(b\" 1;", "never \"(a{9,9}){9,9}\" 1;", "never \"ab(c*\" 1;", "never \"[^a\" 1;"};
        String good = "never \"a(bc){2,2}\" 1;never \"abcdefgh-a\" 1;";
        for (int i = 0; i < cut.length + FAULTS.length; i++) {
            RosterRules x = new RosterRules(2, 2);
            String text = i < cut.length ? cut[i] : FAULTS[i - cut.length].text;
            for (int turn = 0; turn < 3; turn++) {
                Check.holds("a fault in " + text, Check.read(x, text) <= -11);
                Check.due("a good text behind " + text, Check.read(x, good), 2);
                Check.due("no place behind " + text, x.place(), Check.NO);
                Check.due("the words behind " + text, x.words(0, 5), 1);
                Check.due("the states behind " + text, x.law(0, 3), 7);
                Check.due("the states behind " + text, x.law(1, 3), 12);
                Check.due("the PLACES behind " + text, x.law(1, 4), 10);
            }
        }
    }

    private static void firstFaultWithinLaw() {
        Check.sentence("the first one that is met, token by token and in a PATTERN byte by byte");
        fault("rest 10001 1001;", 4, 5);
        fault("rest 10001 x", 4, 5);
        fault("rest 10001 @", 4, 5);
        fault("rest x 10001;", 2, 5);
        fault("rest @ 10001;", 1, 5);
        fault("rest 1 1001", 4, 7);
        fault("hours 100000 1 0 1001;", 4, 6);
        fault("hours 5 4 0 1001;", 4, 8);
        fault("hours 5 5 0 1001;", 4, 10);
        fault("cover i 9 9 1001;", 2, 6);
        fault("cover a 9 0 1001;", 4, 8);
        fault("fair i 1001;", 2, 5);
        fault("never \"*\" 1001;", 2, 7);
        fault("never \"a**{2,1}\" 1;", 2, 9);
        fault("never \"a{2,1}**\" 1;", 4, 11);
        fault("never \"a{2,1}[^-abcdefgh]\" 1;", 4, 11);
        fault("never \"[^-abcdefgh]{2,1}\" 1;", 2, 18);
        fault("never \"**\t\" 1;", 1, 6);
        fault("never \"**", 1, 6);
        fault("never \"" + "*".repeat(41) + "\" 1;", 1, 6);
        fault("nolaw \"**", 2, 0);
        fault("skill \"**\" 1;", 2, 6);
    }
}
