import java.util.ArrayDeque;
import java.util.ArrayList;
import java.util.Arrays;
import java.util.HashMap;
import java.util.List;
import java.util.Map;
import java.util.TreeSet;

/**
 * The document once more, as slowly and plainly as can be: every answer is worked out from the
 * cells anew, patterns are matched by their derivatives, automata merged by marking pairs.
 */
final class Model {
    static final int BAD = -1, NO = -2, FULL = -3;
    private static final String LETTERS = "-abcdefgh";

    private static final class Fault extends RuntimeException {
        private static final long serialVersionUID = 1;
        final int number;
        final int place;

        Fault(int number, int place) {
            this.number = number;
            this.place = place;
        }
    }

    private record Token(char kind, int place, String text) {
    }

    /** kind 'l' letters, '.' chain, '|' either, '*' any number of times, 'e' the empty word. */
    private record Node(char kind, String letters, Node left, Node right) {
        String key() {
            return kind == 'l' ? letters : kind == 'e' ? "#" : kind + "(" + left.key()
                + (right == null ? "" : "," + right.key()) + ")";
        }

        boolean empty() {
            return switch (kind) {
                case 'l' -> false;
                case '.' -> left.empty() && right.empty();
                case '|' -> left.empty() || right.empty();
                default -> true;
            };
        }
    }

    private static final Node EMPTY = new Node('e', null, null, null);

    private static final class Law {
        String sort;
        int place;
        int[] numbers;
        int shift;
        Node pattern;
        int places;
        int weight;
        int[][] sets;
        int[][] automaton;
    }

    final int people;
    final int days;
    private final StringBuilder tape = new StringBuilder();
    private final int[][] row;
    private final int[][] wishShift;
    private final int[][] wishWeight;
    private final int[] begin = new int[8];
    private final int[] length = new int[8];
    private final int[] skill = new int[8];
    private final int[] skills;
    private List<Law> laws = new ArrayList<>();
    private final ArrayDeque<int[]> puts = new ArrayDeque<>();
    private int faultPlace = NO;

    Model(int people, int days) {
        this.people = people < 1 ? 1 : people > 8 ? 8 : people;
        this.days = days < 1 ? 1 : days > 21 ? 21 : days;
        row = new int[this.people][7 + this.days];
        wishShift = new int[this.people][this.days];
        wishWeight = new int[this.people][this.days];
        skills = new int[this.people];
        for (int[] r : row) {
            Arrays.fill(r, -1);
        }
        Arrays.fill(begin, 480);
        Arrays.fill(length, 480);
        Arrays.fill(skills, 1023);
    }

    int feed(int n, long bytes) {
        if (n < 1 || n > 8) {
            return BAD;
        }
        if (tape.length() + n > 1500) {
            return FULL;
        }
        for (int i = 0; i < n; i++) {
            tape.append((char) (bytes >> 8 * i & 255));
        }
        return tape.length();
    }

    // ---- the text

    private String text;
    private int next;

    int read() {
        text = tape.toString();
        tape.setLength(0);
        next = 0;
        faultPlace = NO;
        try {
            List<Law> found = new ArrayList<>();
            for (Token t = token(); t.kind != 'E'; t = token()) {
                if (found.size() == 16) {
                    throw new Fault(3, t.place);
                }
                found.add(oneLaw(t));
            }
            laws = found;
            return found.size();
        } catch (Fault f) {
            faultPlace = f.place;
            return -10 - f.number;
        }
    }

    private Token token() {
        while (next < text.length() && (text.charAt(next) == '\n' || text.charAt(next) == ' ')) {
            next++;
        }
        if (next == text.length()) {
            return new Token('E', next, "");
        }
        String rest = text.substring(next);
        int place = next;
        String[] shapes = {"W[a-z]+", "N[0-9]+", "P\"[\\x21\\x23-\\x7e]*\"", "S;"};
        int[] longest = {8, 6, 42, 1};
        for (int i = 0; i < shapes.length; i++) {
            java.util.regex.Matcher m = java.util.regex.Pattern.compile(shapes[i].substring(1)).matcher(rest);
            if (m.lookingAt()) {
                if (m.end() > longest[i]) {
                    throw new Fault(1, place);
                }
                next += m.end();
                return new Token(shapes[i].charAt(0), place, m.group());
            }
        }
        throw new Fault(1, place);
    }

    private Token token(char kind) {
        Token t = token();
        if (t.kind != kind) {
            throw new Fault(2, t.place);
        }
        return t;
    }

    private int number(int low, int high) {
        Token t = token('N');
        int value = Integer.parseInt(t.text);
        if (value < low || value > high) {
            throw new Fault(4, t.place);
        }
        return value;
    }

    private Law oneLaw(Token name) {
        Law law = new Law();
        law.sort = name.text;
        law.place = name.place;
        if (name.kind != 'W') {
            throw new Fault(2, name.place);
        }
        switch (name.text) {
            case "skill" -> { }
            case "rest" -> law.numbers = new int[] {number(0, 10000)};
            case "hours" -> {
                int a = number(0, 99999);
                int b = number(a, 99999);
                law.numbers = new int[] {a, b, number(1, days)};
            }
            case "never", "whole" -> {
                Token t = token('P');
                PatternReader reader = new PatternReader(t.text, t.place);
                law.pattern = reader.all();
                law.places = reader.places;
            }
            case "fair" -> law.shift = shiftName();
            case "cover" -> {
                law.shift = shiftName();
                int a = number(0, 8);
                law.numbers = new int[] {a, number(a, 8)};
            }
            default -> throw new Fault(2, name.place);
        }
        law.weight = number(0, 1000);
        token('S');
        return law;
    }

    private int shiftName() {
        Token t = token('W');
        if (!t.text.matches("[a-h]")) {
            throw new Fault(2, t.place);
        }
        return t.text.charAt(0) - 'a';
    }

    /** Goes down the grammar; places are counted by going through the tree. */
    private static final class PatternReader {
        private final String bytes;
        private final int place;
        private int i = 1;
        int places;

        PatternReader(String bytes, int place) {
            this.bytes = bytes;
            this.place = place;
        }

        Node all() {
            long[] size = new long[1];
            Node node = alt(size);
            if (i != bytes.length() - 1) {
                throw new Fault(2, place + i);
            }
            if (size[0] > 10) {
                throw new Fault(3, place);
            }
            places = (int) size[0];
            return node == null ? EMPTY : node;
        }

        private char c() {
            return bytes.charAt(i);
        }

        private Node alt(long[] size) {
            Node node = items(size);
            while (c() == '|') {
                i++;
                Node other = items(size);
                node = new Node('|', null, node, other);
            }
            return node;
        }

        private Node items(long[] size) {
            Node node = item(size);
            while (".[(".indexOf(c()) >= 0 || LETTERS.indexOf(c()) >= 0) {
                Node other = item(size);
                node = new Node('.', null, node, other);
            }
            return node;
        }

        private Node item(long[] size) {
            long[] own = new long[1];
            Node node = atom(own);
            long times = 1;
            if (c() == '*') {
                i++;
                node = new Node('*', null, node, null);
            } else if (c() == '+') {
                i++;
                node = new Node('.', null, node, new Node('*', null, node, null));
            } else if (c() == '?') {
                i++;
                node = new Node('|', null, node, EMPTY);
            } else if (c() == '{') {
                i++;
                int n = digit();
                sign(',');
                int m = digit();
                if (m == 0 || m < n) {
                    throw new Fault(4, place + i - 1);
                }
                sign('}');
                times = m;
                Node whole = null;
                if (own[0] * m <= 10) {
                    for (int k = m; k >= 1; k--) {
                        Node behind = whole == null ? node : new Node('.', null, node, whole);
                        whole = k > n ? new Node('|', null, behind, EMPTY) : behind;
                    }
                    node = whole;
                }
            }
            size[0] += own[0] * times;
            return node;
        }

        private int digit() {
            if (c() < '0' || c() > '9') {
                throw new Fault(2, place + i);
            }
            return bytes.charAt(i++) - '0';
        }

        private void sign(char wanted) {
            if (c() != wanted) {
                throw new Fault(2, place + i);
            }
            i++;
        }

        private Node atom(long[] size) {
            char c = c();
            if (c == '(') {
                i++;
                Node node = alt(size);
                sign(')');
                return node;
            }
            size[0]++;
            if (c == '[') {
                i++;
                boolean not = c() == '^';
                if (not) {
                    i++;
                }
                TreeSet<Character> these = new TreeSet<>();
                do {
                    if (LETTERS.indexOf(c()) < 0) {
                        throw new Fault(2, place + i);
                    }
                    these.add(c());
                    i++;
                } while (LETTERS.indexOf(c()) >= 0);
                StringBuilder taken = new StringBuilder();
                for (char l : LETTERS.toCharArray()) {
                    if (these.contains(l) != not) {
                        taken.append(l);
                    }
                }
                if (taken.length() == 0) {
                    throw new Fault(2, place + i);
                }
                sign(']');
                return new Node('l', taken.toString(), null, null);
            }
            if (c != '.' && LETTERS.indexOf(c) < 0) {
                throw new Fault(2, place + i);
            }
            i++;
            return new Node('l', c == '.' ? LETTERS : String.valueOf(c), null, null);
        }
    }

    // ---- patterns: sets of what may follow

    private static void derive(Node node, char letter, Node behind, Map<String, Node> into) {
        switch (node.kind) {
            case 'l' -> {
                if (node.letters.indexOf(letter) >= 0) {
                    into.put(behind.key(), behind);
                }
            }
            case '|' -> {
                derive(node.left, letter, behind, into);
                derive(node.right, letter, behind, into);
            }
            case '.' -> {
                derive(node.left, letter, chain(node.right, behind), into);
                if (node.left.empty()) {
                    derive(node.right, letter, behind, into);
                }
            }
            case '*' -> derive(node.left, letter, chain(node, behind), into);
            default -> { }
        }
    }

    private static Node chain(Node a, Node b) {
        return a == EMPTY ? b : b == EMPTY ? a : new Node('.', null, a, b);
    }

    private static Map<String, Node> step(Map<String, Node> from, char letter) {
        Map<String, Node> into = new HashMap<>();
        for (Node n : from.values()) {
            derive(n, letter, EMPTY, into);
        }
        return into;
    }

    private static boolean ends(Map<String, Node> set) {
        for (Node n : set.values()) {
            if (n.empty()) {
                return true;
            }
        }
        return false;
    }

    /** By the automaton that is not merged yet. */
    private static boolean isWord(Law law, int[] letters, int from, int to) {
        if (law.sets == null) {
            law.sets = whole(law.pattern);
        }
        int state = 0;
        for (int i = from; i <= to; i++) {
            state = law.sets[state][letters[i] + 1];
        }
        return law.sets[state][9] == 1;
    }

    private static int[][] automaton(Law law) {
        if (law.automaton == null) {
            law.automaton = least(whole(law.pattern));
        }
        return law.automaton;
    }

    private static int[][] whole(Node pattern) {
        List<Map<String, Node>> sets = new ArrayList<>();
        Map<TreeSet<String>, Integer> numbers = new HashMap<>();
        Map<String, Node> first = new HashMap<>();
        first.put(pattern.key(), pattern);
        sets.add(first);
        numbers.put(new TreeSet<>(first.keySet()), 0);
        List<int[]> table = new ArrayList<>();
        for (int s = 0; s < sets.size(); s++) {
            int[] line = new int[10];
            for (int l = 0; l < 9; l++) {
                Map<String, Node> to = step(sets.get(s), LETTERS.charAt(l));
                TreeSet<String> key = new TreeSet<>(to.keySet());
                if (!numbers.containsKey(key)) {
                    numbers.put(key, sets.size());
                    sets.add(to);
                }
                line[l] = numbers.get(key);
            }
            line[9] = ends(sets.get(s)) ? 1 : 0;
            table.add(line);
        }
        return table.toArray(new int[0][]);
    }

    private static int[][] least(int[][] table) {
        int n = table.length;
        boolean[][] apart = new boolean[n][n];
        for (boolean again = true; again;) {
            again = false;
            for (int a = 0; a < n; a++) {
                for (int b = 0; b < n; b++) {
                    if (apart[a][b]) {
                        continue;
                    }
                    boolean now = table[a][9] != table[b][9];
                    for (int l = 0; l < 9 && !now; l++) {
                        now = apart[table[a][l]][table[b][l]];
                    }
                    apart[a][b] = now;
                    again |= now;
                }
            }
        }
        int[] first = new int[n];
        for (int a = 0; a < n; a++) {
            while (apart[a][first[a]]) {
                first[a]++;
            }
        }
        List<Integer> order = new ArrayList<>(List.of(0));
        List<int[]> merged = new ArrayList<>();
        for (int s = 0; s < order.size(); s++) {
            int[] line = new int[10];
            for (int l = 0; l < 9; l++) {
                int to = first[table[order.get(s)][l]];
                if (!order.contains(to)) {
                    order.add(to);
                }
                line[l] = order.indexOf(to);
            }
            line[9] = table[order.get(s)][9];
            merged.add(line);
        }
        return merged.toArray(new int[0][]);
    }

    // ---- what is told

    int place() {
        return faultPlace;
    }

    int shift(int k, int b, int m, int s) {
        if (k < 0 || k > 7 || b < 0 || b > 1439 || m < 1 || m > 1440 || s < 0 || s > 9) {
            return BAD;
        }
        begin[k] = b;
        length[k] = m;
        skill[k] = s;
        return 1;
    }

    private boolean person(int p) {
        return p >= 0 && p < people;
    }

    private boolean day(int d) {
        return d >= 0 && d < days;
    }

    private static boolean may(int shift) {
        return shift >= -1 && shift <= 7;
    }

    int person(int p, int s) {
        if (!person(p) || (s & ~1023) != 0) {
            return BAD;
        }
        skills[p] = s;
        return 1;
    }

    int past(int p, int i, int shift) {
        if (!person(p) || i < 1 || i > 7 || !may(shift)) {
            return -9;
        }
        int was = row[p][7 - i];
        row[p][7 - i] = shift;
        return was;
    }

    int wish(int p, int d, int shift, int weight) {
        if (!person(p) || !day(d) || !may(shift) || weight < 0 || weight > 1000) {
            return BAD;
        }
        wishShift[p][d] = shift;
        wishWeight[p][d] = weight;
        return 1;
    }

    int at(int p, int d) {
        return person(p) && day(d) ? row[p][7 + d] : -9;
    }

    long put(int p, int d, int shift) {
        if (!person(p) || !day(d) || !may(shift)) {
            return 1L << 62;
        }
        long before = score();
        puts.addLast(new int[] {p, d, row[p][7 + d]});
        if (puts.size() > 200) {
            puts.removeFirst();
        }
        row[p][7 + d] = shift;
        return score() - before;
    }

    long change(int p, int d, int shift) {
        if (!person(p) || !day(d) || !may(shift)) {
            return 1L << 62;
        }
        int was = row[p][7 + d];
        long before = score();
        row[p][7 + d] = shift;
        long behind = score();
        row[p][7 + d] = was;
        return behind - before;
    }

    int undo() {
        if (puts.isEmpty()) {
            return NO;
        }
        int[] last = puts.removeLast();
        row[last[0]][7 + last[1]] = last[2];
        return puts.size();
    }

    int best(int p, int d) {
        if (!person(p) || !day(d)) {
            return -9;
        }
        int best = -1;
        for (int s = 0; s <= 7; s++) {
            if (change(p, d, s) < change(p, d, best)) {
                best = s;
            }
        }
        return best;
    }

    int descend(int n) {
        if (n < 0 || n > 3) {
            return BAD;
        }
        for (int done = 0; done < n; done++) {
            long most = 0;
            int[] step = null;
            for (int p = 0; p < people; p++) {
                for (int d = 0; d < days; d++) {
                    for (int s = -1; s <= 7; s++) {
                        long by = change(p, d, s);
                        if (by < most) {
                            most = by;
                            step = new int[] {p, d, s};
                        }
                    }
                }
            }
            if (step == null) {
                return done;
            }
            put(step[0], step[1], step[2]);
        }
        return n;
    }

    // ---- what is broken

    private static long outside(long value, int low, int high) {
        return value < low ? low - value : value > high ? value - high : 0;
    }

    private long ofPerson(Law law, int p) {
        int[] r = row[p];
        long sum = 0;
        switch (law.sort) {
            case "skill" -> {
                for (int d = 0; d < days; d++) {
                    sum += r[7 + d] >= 0 && (skills[p] & 1 << skill[r[7 + d]]) == 0 ? 1 : 0;
                }
            }
            case "rest" -> {
                for (int j = 7; j < r.length; j++) {
                    for (int i = 0; i < j; i++) {
                        boolean pair = r[i] >= 0 && r[j] >= 0;
                        for (int k = i + 1; k < j; k++) {
                            pair &= r[k] < 0;
                        }
                        if (pair && 1440 * j + begin[r[j]] - (1440 * i + begin[r[i]] + length[r[i]]) < law.numbers[0]) {
                            sum++;
                        }
                    }
                }
            }
            case "hours" -> {
                for (int d = 0; d + law.numbers[2] <= days; d++) {
                    sum += outside(minutes(p, d, d + law.numbers[2] - 1), law.numbers[0], law.numbers[1]);
                }
            }
            case "never" -> {
                for (int j = 7; j < r.length; j++) {
                    boolean found = false;
                    for (int i = 0; i <= j && !found; i++) {
                        found = isWord(law, r, i, j);
                    }
                    sum += found ? 1 : 0;
                }
            }
            default -> sum = isWord(law, r, 7, r.length - 1) ? 0 : 1;
        }
        return sum;
    }

    private long times(int p, int shift, int from, int to) {
        long n = 0;
        for (int d = from; d <= to; d++) {
            n += row[p][7 + d] == shift ? 1 : 0;
        }
        return n;
    }

    private long ofDay(Law law, int d) {
        long n = 0;
        for (int p = 0; p < people; p++) {
            n += times(p, law.shift, d, d);
        }
        return outside(n, law.numbers[0], law.numbers[1]);
    }

    private long inAll(Law law) {
        long sum = 0;
        if (law.sort.equals("fair")) {
            long most = 0;
            long least = 99;
            for (int p = 0; p < people; p++) {
                most = Math.max(most, times(p, law.shift, 0, days - 1));
                least = Math.min(least, times(p, law.shift, 0, days - 1));
            }
            return most - least;
        }
        if (law.sort.equals("cover")) {
            for (int d = 0; d < days; d++) {
                sum += ofDay(law, d);
            }
            return sum;
        }
        for (int p = 0; p < people; p++) {
            sum += ofPerson(law, p);
        }
        return sum;
    }

    long broken(int k, int of) {
        if (!isLaw(k)) {
            return BAD;
        }
        Law law = laws.get(k);
        if (of == -1) {
            return inAll(law);
        }
        if (law.sort.equals("fair")) {
            return BAD;
        }
        if (law.sort.equals("cover")) {
            return day(of) ? ofDay(law, of) : BAD;
        }
        return person(of) ? ofPerson(law, of) : BAD;
    }

    long score() {
        long sum = 0;
        for (Law law : laws) {
            sum += inAll(law) * law.weight;
        }
        for (int p = 0; p < people; p++) {
            for (int d = 0; d < days; d++) {
                sum += row[p][7 + d] == wishShift[p][d] ? 0 : wishWeight[p][d];
            }
        }
        return sum;
    }

    long minutes(int p, int from, int to) {
        if (!person(p) || !day(from) || !day(to) || to < from) {
            return BAD;
        }
        long sum = 0;
        for (int d = from; d <= to; d++) {
            sum += row[p][7 + d] < 0 ? 0 : length[row[p][7 + d]];
        }
        return sum;
    }

    private boolean isLaw(int k) {
        return k >= 0 && k < laws.size();
    }

    int law(int k, int what) {
        if (!isLaw(k) || what < 0 || what > 4) {
            return BAD;
        }
        Law law = laws.get(k);
        return switch (what) {
            case 0 -> List.of("skill", "rest", "hours", "never", "whole", "fair", "cover").indexOf(law.sort);
            case 1 -> law.weight;
            case 2 -> law.place;
            case 3 -> law.pattern == null ? NO : automaton(law).length;
            default -> law.pattern == null ? NO : law.places;
        };
    }

    int state(int k, int state, int letter) {
        if (!isLaw(k) || letter < 0 || letter > 9 || state < 0) {
            return BAD;
        }
        if (laws.get(k).pattern == null) {
            return NO;
        }
        int[][] table = automaton(laws.get(k));
        return state < table.length ? table[state][letter] : BAD;
    }

    int alike(int a, int b) {
        if (!isLaw(a) || !isLaw(b)) {
            return BAD;
        }
        if (laws.get(a).pattern == null || laws.get(b).pattern == null) {
            return NO;
        }
        return Arrays.deepEquals(automaton(laws.get(a)), automaton(laws.get(b))) ? 1 : 0;
    }

    long words(int k, int n) {
        if (!isLaw(k) || laws.get(k).pattern == null || n < 0 || n > 40) {
            return -1;
        }
        int[][] table = automaton(laws.get(k));
        long[] ways = new long[table.length];
        ways[0] = 1;
        for (int i = 0; i < n; i++) {
            long[] more = new long[table.length];
            for (int s = 0; s < table.length; s++) {
                for (int l = 0; l < 9; l++) {
                    more[table[s][l]] += ways[s];
                }
            }
            ways = more;
        }
        long sum = 0;
        for (int s = 0; s < table.length; s++) {
            sum += table[s][9] * ways[s];
        }
        return sum;
    }

    int word(int k, int i) {
        if (!isLaw(k) || i < 0) {
            return BAD;
        }
        if (laws.get(k).pattern == null) {
            return NO;
        }
        int[][] table = automaton(laws.get(k));
        for (int n = 0; n <= 40; n++) {
            String found = wordOf(table, 0, n);
            if (found != null) {
                return i < n ? found.charAt(i) - '0' : NO;
            }
        }
        return NO;
    }

    /** The first word of n letters from a state on, or null. */
    private static String wordOf(int[][] table, int state, int n) {
        boolean[][] can = new boolean[n + 1][table.length];
        for (int left = 0; left <= n; left++) {
            for (int s = 0; s < table.length; s++) {
                can[left][s] = left == 0 && table[s][9] == 1;
                for (int l = 0; l < 9 && left > 0; l++) {
                    can[left][s] |= can[left - 1][table[s][l]];
                }
            }
        }
        if (!can[n][state]) {
            return null;
        }
        StringBuilder found = new StringBuilder();
        for (int s = state, left = n; left > 0; left--) {
            int l = 0;
            while (!can[left - 1][table[s][l]]) {
                l++;
            }
            found.append((char) ('0' + l));
            s = table[s][l];
        }
        return found.toString();
    }

    int count(int what) {
        int cells = 0;
        int wishes = 0;
        for (int p = 0; p < people; p++) {
            for (int d = 0; d < days; d++) {
                cells += row[p][7 + d] >= 0 ? 1 : 0;
                wishes += wishWeight[p][d] > 0 ? 1 : 0;
            }
        }
        return switch (what) {
            case 0 -> laws.size();
            case 1 -> tape.length();
            case 2 -> cells;
            case 3 -> wishes;
            case 4 -> puts.size();
            default -> BAD;
        };
    }
}
