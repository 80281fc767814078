/** Each promise of the document by itself: ordinary inputs, the edges it names, and wrong inputs. */
public final class PromisesTest {
    private static final int BAD = Check.BAD, NO = Check.NO, FULL = Check.FULL;
    private static final int LOW = Check.LOW, HIGH = Check.HIGH;
    private static final long NO_SUCH = Check.NO_SUCH;

    public static void main(String[] args) {
        newObject();
        feed();
        readLaws();
        faultsOfTokens();
        faultsOfNumbers();
        faultsOfPatterns();
        faultsOfManyLaws();
        place();
        shift();
        person();
        past();
        wish();
        at();
        put();
        change();
        undo();
        best();
        descend();
        brokenSkillAndRest();
        brokenHours();
        brokenPatterns();
        brokenFairAndCover();
        brokenRefused();
        score();
        minutes();
        law();
        state();
        alike();
        words();
        word();
        count();
        Check.end();
    }

    private static void due(String what, long got, long want) {
        Check.due(what, got, want);
    }

    private static RosterRules with(int people, int days, String text) {
        return Check.with(people, days, text);
    }

    private static void fault(String text, int number, int place) {
        Check.fault(text, number, place);
    }

    private static void fine(String text, int laws) {
        Check.fine(text, laws);
    }

    private static void newObject() {
        RosterRules x = new RosterRules(3, 5);
        for (int p = 0; p < 3; p++) {
            for (int day = 0; day < 5; day++) {
                due("1: new cell", x.at(p, day), -1);
            }
        }
        due("1: person beyond", x.at(3, 0), -9);
        due("1: day beyond", x.at(0, 5), -9);
        for (int what = 0; what <= 4; what++) {
            due("1: new count " + what, x.count(what), 0);
        }
        due("1: new score", x.score(), 0);
        int[][] sizes = {{0, 0, 1, 1}, {-5, LOW, 1, 1}, {LOW, -1, 1, 1}, {9, 22, 8, 21}, {HIGH, HIGH, 8, 21},
            {8, 21, 8, 21}, {1, 1, 1, 1}, {1, 21, 1, 21}, {0, 30, 1, 21}, {30, 0, 8, 1}};
        for (int[] size : sizes) {
            RosterRules y = new RosterRules(size[0], size[1]);
            due("1: last cell", y.at(size[2] - 1, size[3] - 1), -1);
            due("1: one person more", y.at(size[2], 0), -9);
            due("1: one day more", y.at(0, size[3]), -9);
        }
    }

    private static void feed() {
        RosterRules x = new RosterRules(2, 2);
        for (int n : new int[] {0, -1, 9, LOW, HIGH}) {
            due("2: feed of n = " + n, x.feed(n, 59), BAD);
        }
        due("2: tape", x.count(1), 0);
        due("2: three bytes", x.feed(3, -1L), 3);
        due("2: eight bytes", x.feed(8, -1L), 11);
        due("2: tape", x.count(1), 11);
        due("2: byte 255 is no token", x.read(), -11);
        due("2: its place", x.place(), 0);
        due("2: only the lowest bytes come", x.feed(1, 0x7777777777777720L), 1);
        due("2: a blank", x.read(), 0);
        for (int i = 1; i <= 187; i++) {
            due("2: filling", x.feed(8, 0x2020202020202020L), 8 * i);
        }
        due("2: five do not fit", x.feed(5, 0), FULL);
        due("2: eight do not fit", x.feed(8, 0), FULL);
        due("2: BAD before FULL", x.feed(9, 0), BAD);
        due("2: tape as before", x.count(1), 1496);
        due("2: four fit", x.feed(4, 0x3b203120L), 1500);
        due("2: one does not", x.feed(1, 0), FULL);
        due("2: full tape", x.count(1), 1500);
        due("2: full tape read", x.read(), -12);
        due("2: place near its end", x.place(), 1497);
        due("2: empty then", x.count(1), 0);
        due("2: and open again", x.feed(1, 0), 1);
    }

    private static void readLaws() {
        fine("", 0);
        fine(" \n ", 0);
        fine("skill 1;", 1);
        fine("skill1;rest 0 0;rest\n10000\n1000;", 3);
        fine("hours 0 99999 1 1;hours 5 5 14 0;", 2);
        fine("cover a 0 0 1;cover h 8 8 1;cover b 0 8 1;fair c 4;", 4);
        fine("never\"a\"1;whole\"-\"1;", 2);
        fine("skill 000001;rest 010000 1;", 2);
        fine("skill 1;skill 1;skill 1;skill 1;skill 1;skill 1;skill 1;skill 1;"
            + "skill 1;skill 1;skill 1;skill 1;skill 1;skill 1;skill 1;skill 1; \n", 16);
        RosterRules x = with(2, 7, "skill 5;rest 3 4;");
        due("3: others in place of all", Check.read(x, "fair b 9;"), 1);
        due("3: sort", x.law(0, 0), 5);
        due("3: no second law", x.law(1, 0), BAD);
        due("3: none in place of all", x.read(), 0);
        due("3: no law", x.law(0, 0), BAD);
        due("3: a fault", Check.read(x, "skill 5"), -12);
        due("3: they stay", x.count(0), 0);
    }

    private static void faultsOfTokens() {
        fault("@", 1, 0);
        fault("skill 1;\t", 1, 8);
        fault("skill 1;\r", 1, 8);
        fault("Skill 1;", 1, 0);
        fault("skill -1;", 1, 6);
        fault("abcdefghi", 1, 0);
        fault("abcdefgh", 2, 0);
        fault("skill 1234567;", 1, 6);
        fault("skill 0000001;", 1, 6);
        fault("skill 123456;", 4, 6);
        fault("skill", 2, 5);
        fault("skill  \n", 2, 8);
        fault("skill 1", 2, 7);
        fault("skill 1 1;", 2, 8);
        fault("skill a;", 2, 6);
        fault("skill ;", 2, 6);
        fault("skill \"a\" 1;", 2, 6);
        fault("skill \"a 1;", 1, 6);
        fault(";", 2, 0);
        fault("skill 1;;", 2, 8);
        fault("7", 2, 0);
        fault("\"a\"", 2, 0);
        fault("\"", 1, 0);
        fault("skil 1;", 2, 0);
        fault("zkill 1;", 2, 0);
        fault("skills 1;", 2, 0);
        fault("rest 5;", 2, 6);
        fault("fair i 1;", 2, 5);
        fault("fair ab 1;", 2, 5);
        fault("fair 1 1;", 2, 5);
        fault("fair A 1;", 1, 5);
        fault("fair - 1;", 1, 5);
        fault("cover 1 1 1 1;", 2, 6);
        fault("cover z 1 1 1;", 2, 6);
        fault("never a 1;", 2, 6);
        fault("never 1;", 2, 6);
        fault("never \"a\";", 2, 9);
        fault("hours 1 2 3;", 2, 11);
    }

    private static void faultsOfNumbers() {
        fault("skill 1001;", 4, 6);
        fault("rest 10001 1;", 4, 5);
        fault("rest 10001 @;", 4, 5);
        fault("rest 1 1001;", 4, 7);
        fault("hours 100000 1 1 1;", 4, 6);
        fault("hours 0 100000 1 1;", 4, 8);
        fault("hours 5 4 1 1;", 4, 8);
        fault("hours 5 4 @", 4, 8);
        fault("hours 0 0 0 1;", 4, 10);
        fault("hours 0 0 15 1;", 4, 10);
        fault("hours 0 0 14 1001;", 4, 13);
        fault("cover a 9 9 1;", 4, 8);
        fault("cover a 8 9 1;", 4, 10);
        fault("cover a 2 1 1;", 4, 10);
        fault("cover a 2 2 1001;", 4, 12);
        fault("fair a 1001;", 4, 7);
        fault("never \"a\" 1001;", 4, 10);
        RosterRules x = new RosterRules(1, 1);
        due("3: N within one day", Check.read(x, "hours 0 0 1 1;"), 1);
        due("3: N beyond one day", Check.read(x, "hours 0 0 2 1;"), -14);
    }

    private static void faultsOfPatterns() {
        fault("never \"\" 1;", 2, 7);
        fault("never \"a b\" 1;", 1, 6);
        fault("never \"a\nb\" 1;", 1, 6);
        fault("never \"*a", 1, 6);
        fault("never \"*a\"", 2, 7);
        fault("never \"a\u007f\" 1;", 1, 6);
        fault("never \"a\u00ff\" 1;", 1, 6);
        fault("never \"i\" 1;", 2, 7);
        fault("never \"~\" 1;", 2, 7);
        fault("never \"a!\" 1;", 2, 8);
        fault("never \"a|\" 1;", 2, 9);
        fault("never \"|a\" 1;", 2, 7);
        fault("never \"a||b\" 1;", 2, 9);
        fault("never \"()\" 1;", 2, 8);
        fault("never \"(a\" 1;", 2, 9);
        fault("never \"(a|)\" 1;", 2, 10);
        fault("never \"a)\" 1;", 2, 8);
        fault("never \"a**\" 1;", 2, 9);
        fault("never \"a+?\" 1;", 2, 9);
        fault("never \"a{1,2}*\" 1;", 2, 13);
        fault("never \"a*{1,2}\" 1;", 2, 9);
        fault("never \"(*a)\" 1;", 2, 8);
        fault("never \"[]\" 1;", 2, 8);
        fault("never \"[^]\" 1;", 2, 9);
        fault("never \"[a\" 1;", 2, 9);
        fault("never \"[a*]\" 1;", 2, 9);
        fault("never \"[.]\" 1;", 2, 8);
        fault("never \"[a^b]\" 1;", 2, 9);
        fault("never \"[^-abcdefgh]\" 1;", 2, 18);
        fault("never \"[^-abcdefgh\" 1;", 2, 18);
        fault("never \"]\" 1;", 2, 7);
        fault("never \"a]\" 1;", 2, 8);
        fault("never \"{1,2}\" 1;", 2, 7);
        fault("never \"a{\" 1;", 2, 9);
        fault("never \"a{a,2}\" 1;", 2, 9);
        fault("never \"a{1\" 1;", 2, 10);
        fault("never \"a{12}\" 1;", 2, 10);
        fault("never \"a{1,\" 1;", 2, 11);
        fault("never \"a{1,}\" 1;", 2, 11);
        fault("never \"a{1,2\" 1;", 2, 12);
        fault("never \"a{1,23}\" 1;", 2, 12);
        fault("never \"a{0,0}\" 1;", 4, 11);
        fault("never \"a{2,1}\" 1;", 4, 11);
        fault("never \"a{2,1x\" 1;", 4, 11);
        fault("never \"a}\" 1;", 2, 8);
        fine("never \"a{0,1}\" 1;", 1);
        fine("never \"a{9,9}\" 1;", 1);
        fine("never \"[-abcdefgh]\" 1;", 1);
        fine("never \"[^abcdefgh]\" 1;", 1);
        fine("never \"[aaaa]\" 1;", 1);
        fine("never \"(((a)*)+)?\" 1;", 1);
        String forty = "[aaaaaaaaaaaaaaaaaaaaaaaaaaaaaaaaaaaaaa]";
        due("forty bytes", forty.length(), 40);
        fine("never \"" + forty + "\" 1;", 1);
        fault("never \"" + forty + "a\" 1;", 1, 6);
        fault("never \"" + "(".repeat(40) + "\" 1;", 2, 47);
        fine("never \"" + "(".repeat(19) + "a" + ")".repeat(19) + "\" 1;", 1);
        fine("never \"abcdefgha-\" 1;", 1);
        fault("never \"abcdefgha-.\" 1;", 3, 6);
        fault("never \"abcdefgha-.", 1, 6);
        fault("never \"abcdefgha-.*\" 9999;", 3, 6);
        fault("never \"abcdefgha-.**\" 1;", 2, 19);
        fault("never \"abcdefgha-.{2,1}\" 1;", 4, 21);
        fault("never \"(a{9,9}){9,9}*\" 1;", 2, 20);
        fine("never \"(ab){5,5}\" 1;", 1);
        fine("never \"((a|b){2,5})*\" 1;", 1);
        fault("never \"(ab){5,6}\" 1;", 3, 6);
        fault("never \"((a{1,2}b){1,2}){1,2}\" 1;", 3, 6);
        fault("never \"(((((a{9,9}){9,9}){9,9}){9,9}){9,9})\" 1;", 3, 6);
    }

    private static void faultsOfManyLaws() {
        String sixteen = "skill 1;".repeat(16);
        fault(sixteen + "skill 1;", 3, 128);
        fault(sixteen + "\n ;", 3, 130);
        fault(sixteen + "5", 3, 128);
        fault(sixteen + "\"*\"", 3, 128);
        fault(sixteen + "@", 1, 128);
        fault(sixteen + "abcdefghij", 1, 128);
        fault("skill 1;".repeat(15) + "skill 1", 2, 127);
    }

    private static void place() {
        RosterRules x = new RosterRules(2, 3);
        due("4: before a read", x.place(), NO);
        due("4: fault", Check.read(x, " @"), -11);
        due("4: its place", x.place(), 1);
        due("4: its place still", x.place(), 1);
        x.feed(1, 64);
        due("4: of the latest read", x.place(), 1);
        due("4: a fault at 0", x.read(), -11);
        due("4: place 0", x.place(), 0);
        due("4: a good read", Check.read(x, "skill 1;"), 1);
        due("4: none", x.place(), NO);
    }

    private static void shift() {
        RosterRules x = with(1, 3, "skill 1;");
        int[][] bad = {{-1, 0, 1, 0}, {8, 0, 1, 0}, {LOW, 0, 1, 0}, {HIGH, 0, 1, 0}, {0, -1, 1, 0},
            {0, 1440, 1, 0}, {0, 0, 0, 0}, {0, 0, 1441, 0}, {0, 0, -1, 0}, {0, 0, 1, -1}, {0, 0, 1, 10},
            {0, LOW, 1, 0}, {0, 0, HIGH, 0}, {0, 0, 1, LOW}};
        x.put(0, 0, 0);
        for (int[] b : bad) {
            due("5: bad shift", x.shift(b[0], b[1], b[2], b[3]), BAD);
            due("5: nothing changed", x.minutes(0, 0, 0), 480);
        }
        due("5: least", x.shift(0, 0, 1, 0), 1);
        due("5: minutes from now on", x.minutes(0, 0, 0), 1);
        due("5: most", x.shift(7, 1439, 1440, 9), 1);
        x.put(0, 1, 7);
        due("5: minutes of h", x.minutes(0, 1, 1), 1440);
        x.person(0, 511);
        due("5: skill 9 lacks", x.broken(0, 0), 1);
        due("5: skill 8", x.shift(7, 0, 1440, 8), 1);
        due("5: skill 8 is there", x.broken(0, 0), 0);
        RosterRules y = with(1, 3, "rest 960 1;");
        Check.row(y, 0, "ab");
        due("5: at first 480, 480", y.broken(0, 0), 0);
        y.shift(1, 479, 480, 0);
        due("5: begins a minute earlier", y.broken(0, 0), 1);
    }

    private static void person() {
        RosterRules x = with(2, 2, "skill 1;");
        x.shift(0, 0, 60, 9);
        x.put(0, 0, 0);
        x.put(1, 1, 0);
        due("6: all skills at first", x.broken(0, -1), 0);
        for (int skills : new int[] {-1, 1024, LOW, HIGH, 2047}) {
            due("6: bad skills", x.person(0, skills), BAD);
        }
        for (int p : new int[] {-1, 2, LOW, HIGH}) {
            due("6: no such person", x.person(p, 1), BAD);
        }
        due("6: nothing changed", x.broken(0, -1), 0);
        due("6: none", x.person(0, 0), 1);
        due("6: broken of 0", x.broken(0, 0), 1);
        due("6: not of 1", x.broken(0, 1), 0);
        due("6: all but 9", x.person(1, 511), 1);
        due("6: broken of 1", x.broken(0, 1), 1);
        due("6: only 9", x.person(0, 512), 1);
        due("6: fine again", x.broken(0, 0), 0);
        due("6: all", x.person(1, 1023), 1);
        due("6: all fine", x.broken(0, -1), 0);
    }

    private static void past() {
        RosterRules x = with(2, 2, "never \"h------a\" 1;never \"ba\" 1;");
        int[][] bad = {{-1, 1, 0}, {2, 1, 0}, {0, 0, 0}, {0, 8, 0}, {0, 1, -2}, {0, 1, 8}, {LOW, 1, 0},
            {0, LOW, 0}, {0, HIGH, 0}, {0, 1, HIGH}, {0, 1, LOW}};
        for (int[] b : bad) {
            due("7: bad past", x.past(b[0], b[1], b[2]), -9);
        }
        due("7: OFF at first", x.past(0, 7, 7), -1);
        due("7: what it was", x.past(0, 7, -1), 7);
        due("7: OFF again", x.past(0, 7, 7), -1);
        due("7: another one's is its own", x.past(1, 7, 0), -1);
        x.put(0, 0, 0);
        x.put(1, 0, 0);
        due("7: seven days before", x.broken(0, 0), 1);
        due("7: not of 1", x.broken(0, 1), 0);
        due("7: the day before", x.past(1, 1, 1), -1);
        due("7: ba of 1", x.broken(1, 1), 1);
        due("7: no put", x.count(4), 2);
        due("7: no cell", x.count(2), 2);
    }

    private static void wish() {
        RosterRules x = new RosterRules(2, 3);
        int[][] bad = {{-1, 0, 0, 1}, {2, 0, 0, 1}, {0, -1, 0, 1}, {0, 3, 0, 1}, {0, 0, -2, 1}, {0, 0, 8, 1},
            {0, 0, 0, -1}, {0, 0, 0, 1001}, {LOW, 0, 0, 1}, {0, HIGH, 0, 1}, {0, 0, LOW, 1}, {0, 0, 0, HIGH},
            {0, 0, 8, 0}};
        for (int[] b : bad) {
            due("8: bad wish", x.wish(b[0], b[1], b[2], b[3]), BAD);
        }
        due("8: none came", x.count(3), 0);
        due("8: a wish", x.wish(1, 2, 7, 1000), 1);
        due("8: it costs", x.score(), 1000);
        due("8: OFF where it is OFF", x.wish(0, 0, -1, 5), 1);
        due("8: costs nothing", x.score(), 1000);
        due("8: two", x.count(3), 2);
        due("8: in place", x.wish(1, 2, 6, 3), 1);
        due("8: two still", x.count(3), 2);
        due("8: costs less", x.score(), 3);
        due("8: met", x.put(1, 2, 6), -3);
        due("8: unmet", x.put(0, 0, 0), 5);
        due("8: none any more", x.wish(0, 0, 3, 0), 1);
        due("8: one left", x.count(3), 1);
        due("8: costs nothing", x.score(), 0);
        due("8: none where none is", x.wish(0, 1, 3, 0), 1);
        due("8: one still", x.count(3), 1);
    }

    private static void at() {
        RosterRules x = new RosterRules(2, 3);
        x.put(1, 2, 0);
        x.put(0, 0, 7);
        due("9: a", x.at(1, 2), 0);
        due("9: h", x.at(0, 0), 7);
        due("9: OFF", x.at(0, 1), -1);
        int[][] bad = {{-1, 0}, {2, 0}, {0, -1}, {0, 3}, {LOW, 0}, {HIGH, 0}, {0, LOW}, {0, HIGH}, {0, -7}};
        for (int[] b : bad) {
            due("9: no such cell", x.at(b[0], b[1]), -9);
        }
    }

    private static void put() {
        RosterRules x = with(2, 3, "cover a 1 1 10;hours 480 480 1 1;");
        int[][] bad = {{-1, 0, 0}, {2, 0, 0}, {0, -1, 0}, {0, 3, 0}, {0, 0, -2}, {0, 0, 8}, {LOW, 0, 0},
            {HIGH, 0, 0}, {0, LOW, 0}, {0, HIGH, 0}, {0, 0, LOW}, {0, 0, HIGH}};
        for (int[] b : bad) {
            due("10: no such", x.put(b[0], b[1], b[2]), NO_SUCH);
        }
        due("10: nothing kept", x.count(4), 0);
        due("10: score", x.score(), 30 + 6 * 480);
        due("10: a", x.put(0, 0, 0), -490);
        due("10: the same", x.put(0, 0, 0), 0);
        due("10: another a", x.put(1, 0, 0), 10 - 480);
        due("10: b for it", x.put(1, 0, 1), -10);
        due("10: OFF again", x.put(1, 0, -1), 480);
        due("10: at", x.at(1, 0), -1);
        due("10: score", x.score(), 20 + 5 * 480);
        due("10: all counted", x.count(4), 5);
    }

    private static void change() {
        RosterRules x = with(2, 3, "cover a 1 1 10;hours 480 480 1 1;");
        int[][] bad = {{-1, 0, 0}, {2, 0, 0}, {0, -1, 0}, {0, 3, 0}, {0, 0, -2}, {0, 0, 8}, {HIGH, HIGH, HIGH}};
        for (int[] b : bad) {
            due("11: no such", x.change(b[0], b[1], b[2]), NO_SUCH);
        }
        due("11: a", x.change(0, 0, 0), -490);
        due("11: b", x.change(0, 0, 1), -480);
        due("11: OFF", x.change(0, 0, -1), 0);
        due("11: nothing changes", x.at(0, 0), -1);
        due("11: no put", x.count(4), 0);
        due("11: no cell", x.count(2), 0);
        due("11: no score", x.score(), 30 + 6 * 480);
    }

    private static void undo() {
        RosterRules x = with(2, 21, "cover a 1 1 10;");
        due("12: none", x.undo(), NO);
        x.put(0, 0, 3);
        x.put(0, 0, 4);
        x.put(0, 0, 4);
        due("12: one that changed nothing", x.undo(), 2);
        due("12: e still", x.at(0, 0), 4);
        due("12: undone", x.undo(), 1);
        due("12: d", x.at(0, 0), 3);
        due("12: undone", x.undo(), 0);
        due("12: OFF", x.at(0, 0), -1);
        due("12: none left", x.undo(), NO);
        due("12: steps", x.descend(2), 2);
        due("12: a step undone", x.undo(), 1);
        due("12: of the second step", x.at(0, 1), -1);
        due("12: the first stays", x.at(0, 0), 0);
        RosterRules y = new RosterRules(1, 1);
        for (int i = 0; i < 205; i++) {
            y.put(0, 0, i % 8);
        }
        due("12: kept", y.count(4), 200);
        for (int i = 199; i >= 0; i--) {
            due("12: left", y.undo(), i);
            if (i % 4 == 0) {
                due("12: back", y.at(0, 0), (i + 4) % 8);
            }
        }
        due("12: the oldest are gone", y.undo(), NO);
        due("12: what they left", y.at(0, 0), 4);
        y.put(0, 0, -1);
        due("12: new ones", y.count(4), 1);
        due("12: undone", y.undo(), 0);
        due("12: as before", y.at(0, 0), 4);
    }

    private static void best() {
        RosterRules x = with(2, 3, "hours 400 400 1 1;");
        x.shift(3, 0, 400, 0);
        x.shift(5, 0, 400, 0);
        due("13: the first of two", x.best(0, 0), 3);
        x.put(0, 0, 5);
        due("13: the first still", x.best(0, 0), 3);
        x.wish(0, 0, 5, 1);
        due("13: the wish", x.best(0, 0), 5);
        due("13: nothing changes", x.at(0, 0), 5);
        due("13: no put", x.count(4), 1);
        int[][] bad = {{-1, 0}, {2, 0}, {0, -1}, {0, 3}, {LOW, LOW}, {HIGH, HIGH}};
        for (int[] b : bad) {
            due("13: no such", x.best(b[0], b[1]), -9);
        }
        RosterRules y = new RosterRules(1, 1);
        y.put(0, 0, 7);
        due("13: all alike: OFF", y.best(0, 0), -1);
    }

    private static void descend() {
        RosterRules x = with(3, 4, "cover c 1 1 10;cover d 1 1 20;");
        for (int n : new int[] {-1, 4, LOW, HIGH}) {
            due("14: bad n", x.descend(n), BAD);
        }
        due("14: no step", x.descend(0), 0);
        due("14: score", x.score(), 120);
        due("14: one step", x.descend(1), 1);
        due("14: the dearest, in the first cell", x.at(0, 0), 3);
        due("14: score", x.score(), 100);
        due("14: three", x.descend(3), 3);
        due("14: by days of the first", x.at(0, 3), 3);
        due("14: score", x.score(), 40);
        due("14: three more", x.descend(3), 3);
        due("14: of the next person", x.at(1, 2), 2);
        due("14: only one falls", x.descend(3), 1);
        due("14: score", x.score(), 0);
        due("14: none falls", x.descend(3), 0);
        due("14: each may be undone", x.count(4), 8);
        RosterRules y = with(1, 2, "cover a 1 1 10;never \"a\" 10;");
        due("14: none falls", y.descend(3), 0);
    }

    private static void brokenSkillAndRest() {
        RosterRules x = with(2, 5, "skill 1;rest 600 1;rest 0 1;");
        x.shift(1, 1320, 480, 3);
        x.person(0, 1023 - 8);
        Check.row(x, 0, "bbab-");
        Check.row(x, 1, "bbab-");
        x.past(0, 1, 1);
        due("15: skill of 0, not of the past", x.broken(0, 0), 3);
        due("15: skill of 1", x.broken(0, 1), 0);
        due("15: skill in all", x.broken(0, -1), 3);
        due("15: rest b to a", x.broken(1, 0), 1);
        x.past(0, 1, -1);
        due("15: none below 0", x.broken(2, -1), 0);
        x.shift(2, 1439, 1440, 0);
        x.shift(3, 0, 1, 0);
        Check.row(x, 1, "cd---");
        due("15: an overlap", x.broken(2, 1), 1);
        Check.row(x, 1, "c-d--");
        due("15: one minute too few for M = 600: 1441 of 2880 - 1439", x.broken(1, 1), 1);
        due("15: but no overlap", x.broken(2, 1), 0);
        Check.row(x, 1, "c--d-");
        due("15: two days between", x.broken(1, 1), 0);
        Check.row(x, 1, "-----");
        x.past(1, 2, 2);
        x.past(1, 1, 3);
        due("15: both in the past", x.broken(2, 1), 0);
        RosterRules y = with(1, 3, "rest 10000 1;");
        y.past(0, 7, 0);
        due("15: one alone", y.broken(0, 0), 0);
        y.put(0, 0, 0);
        due("15: over seven days: 9600", y.broken(0, 0), 1);
        Check.row(y, 0, "-a-");
        due("15: over eight days: 11040", y.broken(0, 0), 0);
        Check.row(y, 0, "aaa");
        due("15: each two, one behind the other", y.broken(0, 0), 3);
    }

    private static void brokenHours() {
        RosterRules x = with(2, 4, "hours 500 900 2 1;hours 0 480 4 1;hours 480 480 1 1;");
        Check.row(x, 0, "aa--");
        due("15: 960, 480, 0", x.broken(0, 0), 60 + 20 + 500);
        due("15: three times nothing", x.broken(0, 1), 1500);
        due("15: together", x.broken(0, -1), 2080);
        due("15: one window", x.broken(1, 0), 480);
        due("15: one window of 1", x.broken(1, 1), 0);
        due("15: each day", x.broken(2, 0), 960);
        x.past(0, 1, 0);
        due("15: no window in the past", x.broken(0, 0), 580);
    }

    private static void brokenPatterns() {
        RosterRules x = with(2, 5, "never \"a*\" 1;never \"ab?\" 1;whole \"a*\" 1;whole \"a{5,5}\" 1;never \"b.{6,6}a\" 1;");
        due("15: the empty word does not count", x.broken(0, -1), 0);
        due("15: whole of none", x.broken(2, -1), 2);
        Check.row(x, 0, "aab-a");
        due("15: up to each day once", x.broken(0, 0), 3);
        due("15: a and ab", x.broken(1, 0), 4);
        x.past(0, 1, 0);
        due("15: nothing up to the past", x.broken(1, 0), 4);
        Check.row(x, 0, "bab-a");
        due("15: begun in the past", x.broken(1, 0), 4);
        x.past(0, 7, 1);
        due("15: from the earliest", x.broken(4, 0), 0);
        Check.row(x, 0, "aaaaa");
        due("15: from the earliest, on day 0", x.broken(4, 0), 1);
        due("15: whole", x.broken(2, 0), 0);
        due("15: whole by number", x.broken(3, 0), 0);
        due("15: whole of the other", x.broken(3, -1), 1);
        RosterRules z = with(1, 2, "never \"..{7,7}b\" 1;never \".{7,7}b\" 1;never \"-{8,8}\" 1;");
        z.put(0, 0, 1);
        due("15: no place before -7", z.broken(0, -1), 0);
        due("15: from -7 on", z.broken(1, -1), 1);
        due("15: from -7 on, but b", z.broken(2, -1), 0);
        RosterRules y = with(1, 1, "never \"[^-]-{0,6}a\" 1;whole \"a?\" 1;whole \".\" 1;");
        y.put(0, 0, 0);
        due("15: no shift before", y.broken(0, -1), 0);
        y.past(0, 7, 3);
        due("15: seven days before", y.broken(0, -1), 1);
        due("15: whole of one day", y.broken(1, -1), 0);
        y.put(0, 0, -1);
        due("15: OFF is a letter", y.broken(1, -1), 1);
        due("15: any one", y.broken(2, -1), 0);
    }

    private static void brokenFairAndCover() {
        RosterRules x = with(3, 4, "fair b 1;cover b 1 2 1;cover h 0 8 1;cover a 3 3 1;");
        due("15: fair at first", x.broken(0, -1), 0);
        Check.row(x, 0, "bbb-");
        Check.row(x, 1, "bb--");
        Check.row(x, 2, "b-a-");
        due("15: three less one", x.broken(0, -1), 2);
        x.past(2, 1, 1);
        due("15: on days alone", x.broken(0, -1), 2);
        due("15: three on day 0", x.broken(1, 0), 1);
        due("15: two on day 1", x.broken(1, 1), 0);
        due("15: one on day 2", x.broken(1, 2), 0);
        due("15: none on day 3", x.broken(1, 3), 1);
        due("15: in all", x.broken(1, -1), 2);
        due("15: never broken", x.broken(2, -1), 0);
        due("15: a lacks", x.broken(3, -1), 11);
        RosterRules y = with(1, 4, "fair a 1;");
        Check.row(y, 0, "aaaa");
        due("15: alone", y.broken(0, -1), 0);
    }

    private static void brokenRefused() {
        RosterRules x = with(3, 5, "skill 1;rest 1 1;hours 0 0 1 1;never \"a\"1;whole \"a\"1;fair a 1;cover a 1 1 1;");
        for (int k = 0; k < 5; k++) {
            due("15: person 2", x.broken(k, 2) == BAD ? 1 : 0, 0);
            due("15: no person 3", x.broken(k, 3), BAD);
            due("15: -2", x.broken(k, -2), BAD);
        }
        for (int k : new int[] {0, 1, 2, 4, -2, LOW, HIGH}) {
            due("15: fair of one", x.broken(5, k), BAD);
        }
        due("15: day 4", x.broken(6, 4), 1);
        due("15: no day 5", x.broken(6, 5), BAD);
        due("15: no day -2", x.broken(6, -2), BAD);
        for (int law : new int[] {-1, 7, 16, LOW, HIGH}) {
            due("15: no law", x.broken(law, -1), BAD);
        }
        due("15: before laws", new RosterRules(1, 1).broken(0, -1), BAD);
    }

    private static void score() {
        RosterRules x = with(8, 21, "hours 99999 99999 1 1000;".repeat(16));
        due("16: beyond 32 bits", x.score(), 16L * 1000 * 99999 * 8 * 21);
        RosterRules y = with(2, 3, "cover a 1 1 10;cover a 2 2 0;fair a 7;");
        due("16: by weight", y.score(), 30);
        y.put(0, 0, 0);
        due("16: with fair", y.score(), 27);
        y.wish(1, 1, 0, 4);
        due("16: with a wish", y.score(), 31);
        due("16: other laws", Check.read(y, "fair a 1;"), 1);
        due("16: of them", y.score(), 5);
    }

    private static void minutes() {
        RosterRules x = new RosterRules(2, 4);
        x.shift(1, 0, 100, 0);
        Check.row(x, 0, "ab-b");
        x.past(0, 1, 0);
        due("17: all", x.minutes(0, 0, 3), 680);
        due("17: some", x.minutes(0, 1, 2), 100);
        due("17: one", x.minutes(0, 2, 2), 0);
        due("17: of another", x.minutes(1, 0, 3), 0);
        int[][] bad = {{-1, 0, 0}, {2, 0, 0}, {0, -1, 0}, {0, 0, 4}, {0, 2, 1}, {0, 4, 4}, {0, LOW, HIGH}, {0, 0, -1}};
        for (int[] b : bad) {
            due("17: refused", x.minutes(b[0], b[1], b[2]), BAD);
        }
    }

    private static void law() {
        RosterRules x = with(3, 5, "skill 1; rest 1 2;\n hours 0 0 1 3;never \"a\"4;whole\"(ab){2,3}\"5;fair a 6;cover a 1 1 0;");
        int[] places = {0, 9, 20, 34, 45, 63, 72};
        for (int k = 0; k < 7; k++) {
            due("18: sort", x.law(k, 0), k);
            due("18: W", x.law(k, 1), (k + 1) % 7);
            due("18: place", x.law(k, 2), places[k]);
            boolean pattern = k == 3 || k == 4;
            due("18: states", x.law(k, 3), pattern ? k == 3 ? 3 : 8 : NO);
            due("18: PLACES", x.law(k, 4), pattern ? k == 3 ? 1 : 6 : NO);
            for (int what : new int[] {-1, 5, LOW, HIGH}) {
                due("18: bad what", x.law(k, what), BAD);
            }
        }
        for (int k : new int[] {-1, 7, 15, 16, LOW, HIGH}) {
            due("18: no law", x.law(k, 0), BAD);
            due("18: no law", x.law(k, 3), BAD);
        }
        RosterRules y = with(1, 1, "whole \".*a.{8,8}\"1;whole \".*\"1;whole \"[^a]*\"1;whole \".\"1;");
        due("18: many states", y.law(0, 3), 512);
        due("18: one state", y.law(1, 3), 1);
        due("18: two states", y.law(2, 3), 2);
        due("18: three states", y.law(3, 3), 3);
        due("18: PLACES", y.law(0, 4), 10);
    }

    private static void state() {
        RosterRules x = with(2, 2, "skill 1;whole \"a(b|-)*a\" 1;");
        int[][] due = {{1, 2, 1, 1, 1, 1, 1, 1, 1, 0}, {1, 1, 1, 1, 1, 1, 1, 1, 1, 0}, {2, 3, 2, 1, 1, 1, 1, 1, 1, 0},
            {1, 1, 1, 1, 1, 1, 1, 1, 1, 1}};
        for (int s = 0; s < due.length; s++) {
            for (int letter = 0; letter <= 9; letter++) {
                due("19: from " + s + " by " + letter, x.state(1, s, letter), due[s][letter]);
            }
        }
        for (int letter : new int[] {-1, 10, LOW, HIGH}) {
            due("19: bad letter", x.state(1, 0, letter), BAD);
            due("19: BAD before NO", x.state(0, 0, letter), BAD);
        }
        for (int s : new int[] {-1, 4, LOW, HIGH}) {
            due("19: bad state", x.state(1, s, 0), BAD);
        }
        for (int k : new int[] {-1, 2, LOW, HIGH}) {
            due("19: no law", x.state(k, 0, 0), BAD);
        }
        due("19: no PATTERN", x.state(0, 0, 0), NO);
        due("19: a negative state is none", x.state(0, -1, 0), BAD);
    }

    private static void alike() {
        RosterRules x = with(2, 2, "whole \"(a|b)*\"1;never \"[ab]*\"2;whole \"(a*b*)*\"1;whole \"[ab]+\"1;fair a 1;"
            + "never \"a{1,3}\"1;never \"aa?a?\"1;never \"a|aa|aaa\"1;never \"(a?){3,3}\"1;never \"a{0,3}\"1;");
        due("20: itself", x.alike(0, 0), 1);
        due("20: the same words", x.alike(0, 1), 1);
        due("20: the same words", x.alike(2, 0), 1);
        due("20: but the empty one", x.alike(0, 3), 0);
        due("20: {1,3}", x.alike(5, 6), 1);
        due("20: {1,3}", x.alike(5, 7), 1);
        due("20: {1,3} and ?", x.alike(5, 8), 0);
        due("20: {0,3} and ?", x.alike(9, 8), 1);
        RosterRules y = with(1, 1, "whole \"-*[^-].*\"1;whole \".+\"1;");
        due("20: states alike, one way not", y.law(0, 3), y.law(1, 3));
        due("20: one way", y.alike(0, 1), 0);
        due("20: NO", x.alike(0, 4), NO);
        due("20: NO", x.alike(4, 0), NO);
        due("20: NO", x.alike(4, 4), NO);
        for (int k : new int[] {-1, 10, LOW, HIGH}) {
            due("20: no law", x.alike(k, 0), BAD);
            due("20: no law", x.alike(0, k), BAD);
            due("20: BAD before NO", x.alike(4, k), BAD);
            due("20: BAD before NO", x.alike(k, 4), BAD);
        }
    }

    private static void words() {
        RosterRules x = with(2, 2, "whole \".*\"1;whole \"(ab|ba)+c?\"1;skill 1;whole \"[^a]*\"1;");
        due("21: the empty one", x.words(0, 0), 1);
        due("21: nine", x.words(0, 1), 9);
        long wrapped = 1;
        for (int i = 0; i < 40; i++) {
            wrapped *= 9;
        }
        due("21: wrapping", x.words(0, 40), wrapped);
        due("21: powers of 8 wrap to nothing", x.words(3, 40), 0);
        due("21: powers of 8 wrap", x.words(3, 21), 1L << 63);
        due("21: not the empty one", x.words(1, 0), 0);
        due("21: six", x.words(1, 6), 8);
        due("21: seven", x.words(1, 7), 8);
        due("21: no PATTERN", x.words(2, 3), -1);
        for (int k : new int[] {-1, 4, LOW, HIGH}) {
            due("21: no law", x.words(k, 3), -1);
        }
        for (int n : new int[] {-1, 41, LOW, HIGH}) {
            due("21: no such n", x.words(0, n), -1);
        }
    }

    private static void word() {
        RosterRules x = with(2, 2, "whole \"hh|gb|ga\"1;whole \"a*\"1;skill 1;never \"[^-a]{3,4}\"1;never \"abcdefghab\"1;");
        due("22: of several the first", x.word(0, 0), 7);
        due("22: of several the first", x.word(0, 1), 1);
        due("22: no more", x.word(0, 2), NO);
        due("22: the empty word", x.word(1, 0), NO);
        due("22: no PATTERN", x.word(2, 0), NO);
        due("22: the shortest", x.word(3, 2), 2);
        due("22: not longer", x.word(3, 3), NO);
        for (int i = 0; i < 10; i++) {
            due("22: letter " + i, x.word(4, i), i % 8 + 1);
        }
        due("22: not eleven", x.word(4, 10), NO);
        due("22: far", x.word(4, HIGH), NO);
        for (int i : new int[] {-1, LOW}) {
            due("22: no such i", x.word(0, i), BAD);
            due("22: BAD before NO", x.word(2, i), BAD);
        }
        for (int k : new int[] {-1, 5, LOW, HIGH}) {
            due("22: no law", x.word(k, 0), BAD);
        }
    }

    private static void count() {
        RosterRules x = with(2, 3, "skill 1;fair a 1;");
        x.feed(5, 0);
        x.put(0, 0, 1);
        x.put(0, 1, 1);
        x.put(0, 1, 2);
        x.put(1, 1, -1);
        x.wish(0, 0, 0, 1);
        due("23: laws", x.count(0), 2);
        due("23: bytes", x.count(1), 5);
        due("23: cells", x.count(2), 2);
        due("23: wishes", x.count(3), 1);
        due("23: puts", x.count(4), 4);
        x.undo();
        x.undo();
        x.undo();
        due("23: cells", x.count(2), 1);
        due("23: puts", x.count(4), 1);
        for (int what : new int[] {-1, 5, LOW, HIGH}) {
            due("23: BAD", x.count(what), BAD);
        }
    }
}
