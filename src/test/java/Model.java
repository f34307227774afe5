import java.util.ArrayList;
import java.util.List;
import java.util.TreeMap;
import java.util.regex.Matcher;
import java.util.regex.Pattern;

/**
 * The document once more, as plainly and as unlike the program as can be (lists, maps, regular expressions,
 * a drift that is reckoned from its text): ModelTest asks both the same.
 */
public final class Model {
    static final class Bit {
        int size;
        int off;
        int worth;
        int stuck = -1;

        Bit(int size, int off) {
            this.size = size;
            this.off = off;
            this.worth = size;
        }

        int weight() {
            return size + off;
        }

        Bit copy() {
            Bit b = new Bit(size, off);
            b.worth = worth;
            b.stuck = stuck;
            return b;
        }
    }

    static final class State {
        List<Bit> bits = new ArrayList<>();
        int[] five = {0, 0, 3, 0, 1};
        int x = 1;
        int heat = 0;
        int hour = 0;
        String drift = "";
        List<int[]> seen = new ArrayList<>();

        State copy() {
            State s = new State();
            for (Bit b : bits) {
                s.bits.add(b.copy());
            }
            s.five = five.clone();
            s.x = x;
            s.heat = heat;
            s.hour = hour;
            s.drift = drift;
            for (int[] one : seen) {
                s.seen.add(one.clone());
            }
            return s;
        }

        State onPaper() {
            State s = copy();
            s.five[3] = 0;
            s.five[2] = 3;
            return s;
        }

        int draw(int m) {
            x = x * 1103515245 + 12345;
            return (x >>> 16) % m;
        }

        int reach() {
            return bits.stream().mapToInt(Bit::weight).sum();
        }

        int sizes() {
            return bits.stream().mapToInt(b -> b.size).sum();
        }

        int worths() {
            return bits.stream().mapToInt(b -> b.worth).sum();
        }

        boolean isShort(int i) {
            int below = 0;
            for (Bit b : bits.subList(0, i)) {
                below += b.weight();
            }
            return bits.get(i).weight() > below;
        }
    }

    static final class Told {
        int[][] by;
        int sum;
        int held;
        int left;
        int late;
        int ones;
        int code;
        int bits;
    }

    private String tape = "";
    private State s = new State();
    private final State[] kept = new State[3];
    private Told latest = null;
    private String written = "";
    private int fault = -1;
    private int stopped = -1;
    private List<Integer> rows = new ArrayList<>();

    // ---- conversions ----

    private static Told conversion(State s, int x, int offset, int top, int turned) {
        Told t = new Told();
        t.bits = top;
        t.by = new int[top][];
        int band = s.five[1];
        for (int i = top - 1; i >= 0; i--) {
            Bit b = s.bits.get(i);
            int d = x + offset;
            if (s.five[3] > 0) {
                d += s.draw(s.five[3] * 2 + 1) - s.five[3];
            }
            d -= t.held + b.weight();
            boolean late = b.stuck == -1 && Math.abs(d) < band;
            int one = d < 0 ? 0 : 1;
            if (late && s.five[2] == 0) {
                one = 1;
            } else if (late && s.five[2] == 1) {
                one = 0;
            } else if (late && s.five[2] == 2) {
                one = s.draw(2);
            }
            if (b.stuck != -1) {
                one = b.stuck;
            }
            if (i == turned) {
                one = one == 1 ? 0 : 1;
            }
            t.held += one * b.weight();
            t.sum += one * b.worth;
            t.ones += one;
            t.late += late ? 1 : 0;
            t.by[i] = new int[] {one, late ? 1 : 0, d, t.held};
        }
        t.left = x + offset - t.held;
        t.code = (int) Math.floor((t.sum * 2.0 + s.five[4]) / (s.five[4] * 2.0));
        return t;
    }

    private static int paper(State s, int x) {
        return paper(s, x, -1);
    }

    private static int paper(State s, int x, int turned) {
        State p = s.five[3] == 0 && s.five[2] == 3 ? s : s.onPaper();
        return conversion(p, x, p.five[0], p.bits.size(), turned).code;
    }

    private static void learnOn(State s, int k, int r) {
        for (int i = 0; i < k; i++) {
            s.bits.get(i).worth = s.bits.get(i).size;
        }
        for (int i = k; i < s.bits.size(); i++) {
            int weight = s.bits.get(i).weight();
            double together = 0;
            for (int n = 0; n < r; n++) {
                together += conversion(s, weight, s.five[0], i, -1).sum;
                together += conversion(s, weight, -s.five[0], i, -1).sum;
            }
            s.bits.get(i).worth = (int) Math.floor(together / (2 * r) + 0.5);
        }
    }

    private static boolean misses(State s) {
        TreeMap<Integer, Integer> codes = new TreeMap<>();
        State p = s.onPaper();
        for (int x = 0; x <= s.sizes(); x += s.five[4]) {
            codes.merge(paper(p, x), 1, Integer::sum);
        }
        return codes.size() != codes.lastKey() - codes.firstKey() + 1;
    }

    private static boolean near(int x) {
        return x >= -100000 && x <= 100000;
    }

    private static boolean in(int v, int low, int high) {
        return low <= v && v <= high;
    }

    // ---- drift, from its text ----

    private static final class Reckoner {
        final String text;
        final State s;
        final int i;
        int at = 0;

        Reckoner(String text, State s, int i) {
            this.text = text;
            this.s = s;
            this.i = i;
        }

        char next() {
            return at < text.length() ? text.charAt(at) : 0;
        }

        int sum() {
            int v = product();
            while (next() == '+' || next() == '-') {
                v = text.charAt(at++) == '+' ? v + product() : v - product();
            }
            return v;
        }

        int product() {
            int v = thing();
            while (next() == '*' || next() == '/' || next() == '%') {
                char sign = text.charAt(at++);
                int w = thing();
                v = sign == '*' ? v * w : w == 0 ? 0 : sign == '/' ? v / w : v % w;
            }
            return v;
        }

        int thing() {
            char c = text.charAt(at++);
            switch (c) {
                case 'i':
                    return i;
                case 's':
                    return s.bits.get(i).size;
                case 'w':
                    return s.bits.get(i).weight();
                case 'h':
                    return s.heat;
                case 't':
                    return s.hour;
                case '-':
                    return -thing();
                case '(': {
                    int v = sum();
                    at++;
                    return v;
                }
                case '[': {
                    int a = sum();
                    char than = text.charAt(at++);
                    int b = sum();
                    at++;
                    int yes = sum();
                    at++;
                    int no = sum();
                    at++;
                    return (than == '<' ? a < b : a == b) ? yes : no;
                }
                default: {
                    int v = c - '0';
                    while (Character.isDigit(next())) {
                        v = v * 10 + text.charAt(at++) - '0';
                    }
                    return v;
                }
            }
        }
    }

    /** Answers {place of the FAULT or -1, THINGS}; by a stack of what is open, a byte at a time. */
    static int[] driftFault(String text) {
        if (text.isEmpty()) {
            return new int[] {-1, 0};
        }
        // '(' a parenthesis, '-' a sign ahead, then of a choice: '[' up to < or =, '?' up to ?, ':' up to :, ']' up to ]
        StringBuilder open = new StringBuilder();
        boolean wantsThing = true;
        int things = 0;
        int at = 0;
        while (at < text.length()) {
            char c = text.charAt(at);
            if (wantsThing) {
                if (things == 40 || open.length() == 8) {
                    return new int[] {at, things};
                }
                things++;
                if (c == '(' || c == '-' || c == '[') {
                    open.append(c);
                    at++;
                    continue;
                }
                Matcher leaf = Pattern.compile("[iswht]|[0-9]{1,4}").matcher(text).region(at, text.length());
                if (!leaf.lookingAt()) {
                    return new int[] {at, things};
                }
                at = leaf.end();
                wantsThing = false;
            } else if ("+-*/%".indexOf(c) >= 0) {
                wantsThing = true;
                at++;
            } else {
                int top = open.length() - 1;
                char inside = top < 0 ? 0 : open.charAt(top);
                if (inside == '(' && c == ')' || inside == ']' && c == ']') {
                    open.setLength(top);
                } else if (inside == '[' && (c == '<' || c == '=')) {
                    open.setCharAt(top, '?');
                    wantsThing = true;
                } else if (inside == '?' && c == '?') {
                    open.setCharAt(top, ':');
                    wantsThing = true;
                } else if (inside == ':' && c == ':') {
                    open.setCharAt(top, ']');
                    wantsThing = true;
                } else {
                    return new int[] {at, things};
                }
                at++;
            }
            // a THING that is whole ends each sign that stood ahead of it
            while (!wantsThing && open.length() > 0 && open.charAt(open.length() - 1) == '-') {
                open.setLength(open.length() - 1);
            }
        }
        return new int[] {wantsThing || open.length() > 0 ? text.length() : -1, things};
    }

    // ---- the tape ----

    public int feed(int a, int b, int c, int d, int e) {
        if (tape.length() > 380) {
            return -1;
        }
        for (int v : new int[] {a, b, c, d, e}) {
            tape += "" + (char) (v >>> 24) + (char) (v >> 16 & 255) + (char) (v >> 8 & 255) + (char) (v & 255);
        }
        return tape.length();
    }

    public int end(int n) {
        if (!in(n, 0, tape.length())) {
            return -1;
        }
        tape = tape.substring(0, n);
        return n;
    }

    private static boolean mayBe(int what, int v) {
        int[] low = {-99, 0, 0, 0, 1};
        int[] high = {99, 50, 3, 20, 64};
        return in(what, 0, 4) && in(v, low[what], high[what]);
    }

    /** The longest part of a text from a place on with which something that fits the pattern begins. */
    private static int goesOn(Pattern pattern, String text, int from) {
        int to = text.length();
        while (to > from) {
            Matcher m = pattern.matcher(text.substring(from, to));
            if (m.matches() || m.hitEnd()) {
                break;
            }
            to--;
        }
        return to;
    }

    private static final Pattern ITEM = Pattern.compile(
            "(?:(b)([0-9]{1,4})(?::(-?[0-9]{1,4}))?|(o)(-?[0-9]{1,4})|([drng])([0-9]{1,4}));");

    /** Answers the FAULT's place, or -1. */
    static int textFault(String text, State into) {
        int at = 0;
        String had = "";
        while (at < text.length()) {
            char c = text.charAt(at);
            if (c == 'b' && into.bits.size() == 12 || c != 'b' && had.indexOf(c) >= 0) {
                return at;
            }
            had += c == 'b' ? "" : c;
            Matcher m = ITEM.matcher(text).region(at, text.length());
            boolean whole = m.lookingAt();
            int stops = whole ? m.end() : goesOn(ITEM, text, at);
            String part = text.substring(at, stops);
            // each number that is at its end is asked, the last one too if what is behind it is wrong, but for a digit
            Matcher number = Pattern.compile("-?[0-9]+").matcher(part);
            boolean size = true;
            while (number.find() && !text.substring(at + number.end()).matches("(?s)[0-9].*")) {
                int v = Integer.parseInt(number.group());
                boolean fits = c != 'b' ? mayBe("odrng".indexOf(c), v) : size ? v > 0 : in(v, -99, 99);
                if (!fits) {
                    return at + number.start();
                }
                size = false;
            }
            if (!whole) {
                return stops;
            }
            if (c == 'b') {
                Bit b = new Bit(Integer.parseInt(m.group(2)), m.group(3) == null ? 0 : Integer.parseInt(m.group(3)));
                if (b.weight() < 1) {
                    return at;
                }
                into.bits.add(b);
            } else {
                into.five["odrng".indexOf(c)] = Integer.parseInt(c == 'o' ? m.group(5) : m.group(7));
            }
            at = stops;
        }
        return into.bits.size() < 2 ? text.length() : -1;
    }

    public int text() {
        State t = new State();
        fault = textFault(tape, t);
        tape = "";
        if (fault != -1) {
            return -1;
        }
        s.bits = t.bits;
        s.five = t.five;
        s.seen.clear();
        latest = null;
        return s.bits.size();
    }

    public int fault() {
        return fault;
    }

    public int drift() {
        int[] told = driftFault(tape);
        fault = told[0];
        String was = tape;
        tape = "";
        if (fault != -1) {
            return -1;
        }
        s.drift = was;
        return told[1];
    }

    private static final Pattern ACT = Pattern.compile(
            "(?:([cx=])(-?[0-9]{1,4})|(l)([0-9]{1,4}),([0-9]{1,4})|([ph])([0-9]{1,4})|([so])([0-9]{1,4}),(-?[0-9]{1,4})|(f));");

    public int bench() {
        String t = tape;
        tape = "";
        List<String> all = new ArrayList<>();
        int at = 0;
        while (at < t.length()) {
            Matcher m = ACT.matcher(t).region(at, t.length());
            if (all.size() == 40) {
                fault = at;
                return -1;
            }
            if (!m.lookingAt()) {
                fault = goesOn(ACT, t, at);
                return -1;
            }
            all.add(m.group());
            at = m.end();
        }
        fault = -1;
        stopped = -1;
        rows = new ArrayList<>();
        for (String act : all) {
            Integer told = done(act);
            if (told == null) {
                stopped = rows.size();
                break;
            }
            rows.add(told);
        }
        return rows.size();
    }

    private Integer done(String act) {
        String[] numbers = act.substring(1, act.length() - 1).split(",");
        int a = numbers[0].isEmpty() ? 0 : Integer.parseInt(numbers[0]);
        int b = numbers.length > 1 ? Integer.parseInt(numbers[1]) : 0;
        switch (act.charAt(0)) {
            case 'c':
                return unless(-1000000, convert(a));
            case 'l':
                return unless(-1, learn(a, b));
            case 'p':
                return unless(-1, pass(a));
            case 'h':
                return heat(a) ? 1 : null;
            case 's':
                return stick(a, b) ? 1 : null;
            case 'o':
                return off(a, b) ? 1 : null;
            case 'f':
                return forget();
            case 'x':
                seed(a);
                return 1;
            default:
                return !rows.isEmpty() && rows.get(rows.size() - 1) == a ? Integer.valueOf(a) : null;
        }
    }

    private static Integer unless(int refusal, int told) {
        return told == refusal ? null : Integer.valueOf(told);
    }

    public int stopped() {
        return stopped;
    }

    public int row(int k) {
        return in(k, 0, rows.size() - 1) ? rows.get(k) : -1000000;
    }

    // ---- what it is ----

    public int is(int what) {
        int[] all = {s.bits.size(), s.five[0], s.five[1], s.five[2], s.five[3], s.five[4], s.x, s.seen.size(),
            tape.length(), s.reach(), s.worths(), s.heat, s.hour};
        return in(what, 0, 12) ? all[what] : -100000;
    }

    private boolean has(int i) {
        return in(i, 0, s.bits.size() - 1);
    }

    public int bit(int i, int what) {
        if (!has(i) || !in(what, 0, 5)) {
            return -100000;
        }
        Bit b = s.bits.get(i);
        return new int[] {b.size, b.off, b.worth, b.stuck, b.weight(), s.isShort(i) ? 1 : 0}[what];
    }

    public boolean off(int i, int v) {
        if (!has(i) || !in(v, -99, 99) || s.bits.get(i).size + v < 1) {
            return false;
        }
        s.bits.get(i).off = v;
        return true;
    }

    public boolean set(int what, int v) {
        if (!mayBe(what, v)) {
            return false;
        }
        s.five[what] = v;
        return true;
    }

    public boolean stick(int i, int v) {
        if (!has(i) || !in(v, -1, 1)) {
            return false;
        }
        s.bits.get(i).stuck = v;
        return true;
    }

    public int seed(int x) {
        int was = s.x;
        s.x = x;
        return was;
    }

    public boolean heat(int v) {
        if (!in(v, 0, 99)) {
            return false;
        }
        s.heat = v;
        return true;
    }

    // ---- converting and learning ----

    private boolean none() {
        return s.bits.isEmpty();
    }

    public int convert(int x) {
        if (none() || !near(x)) {
            return -1000000;
        }
        latest = conversion(s, x, s.five[0], s.bits.size(), -1);
        return latest.code;
    }

    public int decision(int i, int what) {
        return latest != null && in(i, 0, latest.bits - 1) && in(what, 0, 3) ? latest.by[i][what] : -1000000;
    }

    public int converted(int what) {
        if (latest == null || !in(what, 0, 5)) {
            return -1000000;
        }
        return new int[] {latest.sum, latest.held, latest.left, latest.late, latest.ones, latest.code}[what];
    }

    public int write() {
        if (latest == null) {
            return -1;
        }
        written = "";
        for (int[] one : latest.by) {
            written = "01-+".charAt(one[1] * 2 + one[0]) + written;
        }
        return written.length();
    }

    public int octet(int k) {
        return in(k, 0, written.length() - 1) ? written.charAt(k) : -1;
    }

    public int learn(int k, int r) {
        if (none() || !in(k, 1, s.bits.size()) || !in(r, 1, 8)) {
            return -1;
        }
        learnOn(s, k, r);
        int count = 0;
        for (int i = k; i < s.bits.size(); i++) {
            count += s.isShort(i) ? 1 : 0;
        }
        return count;
    }

    public int forget() {
        int changed = 0;
        for (Bit b : s.bits) {
            changed += b.worth == b.size ? 0 : 1;
            b.worth = b.size;
        }
        return changed;
    }

    public int mean(int x, int r) {
        if (none() || !near(x) || !in(r, 1, 100)) {
            return -1000000;
        }
        double together = 0;
        for (int n = 0; n < r; n++) {
            together += conversion(s, x, s.five[0], s.bits.size(), -1).code;
        }
        return (int) Math.floor(together / r + 0.5);
    }

    // ---- on paper ----

    public int code(int x) {
        return none() || !near(x) ? -1000000 : paper(s, x);
    }

    public int forgiven(int x, int i) {
        return !has(i) || !near(x) ? -1 : paper(s, x, i) == paper(s, x) ? 1 : 0;
    }

    public int slack(int i) {
        if (!has(i)) {
            return -2;
        }
        State p = s.onPaper();
        int middle = s.bits.get(i).weight() - s.five[0];
        int greatest = -1;
        boolean[] forgiven = new boolean[4001];
        for (int k = 0; k <= 4000; k++) {
            int x = middle - 2000 + k;
            forgiven[k] = paper(p, x, i) == paper(p, x);
        }
        for (int t = 2000; t >= 0 && greatest == -1; t--) {
            boolean all = true;
            for (int k = 2000 - t; k <= 2000 + t; k++) {
                all &= forgiven[k];
            }
            if (all) {
                greatest = t;
            }
        }
        return greatest;
    }

    public int tightest(int what) {
        if (none() || !in(what, 0, 1)) {
            return -2;
        }
        int best = 1;
        for (int i = s.bits.size() - 1; i >= 1; i--) {
            best = slack(i) <= slack(best) ? i : best;
        }
        return what == 0 ? best : slack(best);
    }

    public int gap(int what) {
        if (none() || !in(what, 0, 1)) {
            return -2;
        }
        int widest = 0;
        int bit = -1;
        int below = 0;
        for (int i = 0; i < s.bits.size(); i++) {
            int weight = s.bits.get(i).weight();
            if (weight - below - 1 > widest) {
                widest = weight - below - 1;
                bit = i;
            }
            below += weight;
        }
        return what == 0 ? widest : bit;
    }

    private static boolean span(int a, int b, int c) {
        return a >= -100000 && b <= 100000 && b >= a && c >= 1 && ((long) b - a) / c + 1 <= 2000;
    }

    public int histogram(int a, int b, int c, int what) {
        if (none() || !span(a, b, c) || !in(what, 0, 9)) {
            return -1000000;
        }
        TreeMap<Integer, Integer> codes = new TreeMap<>();
        int falls = 0;
        int offBy = -1;
        int offAt = 0;
        State p = s.onPaper();
        for (long x = a; x <= b; x += c) {
            int code = paper(p, (int) x);
            if (x > a && code < paper(p, (int) x - c)) {
                falls++;
            }
            int far = (int) Math.abs((long) code * s.five[4] - x);
            if (far > offBy) {
                offBy = far;
                offAt = (int) x;
            }
            codes.merge(code, 1, Integer::sum);
        }
        int least = codes.firstKey();
        int greatest = codes.lastKey();
        int most = -1;
        for (int code : codes.keySet()) {
            most = most == -1 || codes.get(code) > codes.get(most) ? code : most;
        }
        int missing = -1;
        for (int code = least; code <= greatest && missing == -1; code++) {
            missing = codes.containsKey(code) ? -1 : code;
        }
        int size = codes.size();
        return new int[] {size, greatest - least + 1 - size, falls, offBy, offAt, most, codes.get(most), least,
            greatest, missing}[what];
    }

    public int often(int a, int b, int c, int code) {
        if (none() || !span(a, b, c)) {
            return -1;
        }
        int count = 0;
        for (long x = a; x <= b; x += c) {
            count += paper(s, (int) x) == code ? 1 : 0;
        }
        return count;
    }

    public int first(int a, int b, int code) {
        if (none() || !span(a, b, 1)) {
            return -1000000;
        }
        for (int x = a; x <= b; x++) {
            if (paper(s, x) >= code) {
                return x;
            }
        }
        return -1000000;
    }

    public int ways(int sum) {
        if (none() || s.worths() > 20000) {
            return -1;
        }
        return allSums().getOrDefault(sum, 0);
    }

    private TreeMap<Integer, Integer> allSums() {
        TreeMap<Integer, Integer> sums = new TreeMap<>();
        sums.put(0, 1);
        for (Bit b : s.bits) {
            TreeMap<Integer, Integer> next = new TreeMap<>(sums);
            for (int sum : sums.keySet()) {
                next.merge(sum + b.worth, sums.get(sum), Integer::sum);
            }
            sums = next;
        }
        return sums;
    }

    public int sums(int what) {
        if (none() || s.worths() > 20000 || !in(what, 0, 3)) {
            return -1;
        }
        TreeMap<Integer, Integer> sums = allSums();
        int most = 0;
        int which = 0;
        for (int sum : sums.keySet()) {
            if (sums.get(sum) > most) {
                most = sums.get(sum);
                which = sum;
            }
        }
        int missing = -1;
        for (int n = s.worths() - 1; n >= 0; n--) {
            missing = sums.containsKey(n) ? missing : n;
        }
        return new int[] {sums.size(), most, which, missing}[what];
    }

    public int apart(int i, int a, int b, int what) {
        if (!in(i, 0, 2) || kept[i] == null || none() || kept[i].bits.isEmpty() || !span(a, b, 1) || !in(what, 0, 2)) {
            return -1000000;
        }
        int many = 0;
        int first = -1000000;
        int most = 0;
        for (int x = b; x >= a; x--) {
            int far = Math.abs(paper(s, x) - paper(kept[i], x));
            if (far > 0) {
                many++;
                first = x;
                most = Math.max(most, far);
            }
        }
        return new int[] {many, first, most}[what];
    }

    // ---- crowds, drawn weights ----

    public int crowd(int seed, int m, int p, int k, int what) {
        if (none() || !in(m, 1, 20) || !in(p, 0, 99) || !in(k, 1, s.bits.size()) || !in(what, 0, 2)
                || s.sizes() / s.five[4] > 1999) {
            return -1;
        }
        State one = s.onPaper();
        one.x = seed;
        int[] count = new int[3];
        for (int n = 0; n < m; n++) {
            for (Bit b : one.bits) {
                b.off = one.draw(2 * p + 1) - p;
                if (b.weight() < 1) {
                    b.off = 1 - b.size;
                }
                b.stuck = -1;
                b.worth = b.size;
            }
            boolean ahead = !misses(one);
            learnOn(one, k, 1);
            boolean behind = !misses(one);
            count[0] += ahead ? 1 : 0;
            count[1] += behind ? 1 : 0;
            count[2] += behind && !ahead ? 1 : 0;
        }
        return count[what];
    }

    private static List<Bit> drawnWeights(int n, int a) {
        List<Bit> bits = new ArrayList<>();
        int below = 0;
        for (int i = 0; i < n; i++) {
            bits.add(new Bit(1 + below * a / 100, 0));
            below += bits.get(i).size;
        }
        return bits;
    }

    private static int reachOf(int n, int a) {
        return drawnWeights(n, a).stream().mapToInt(Bit::weight).sum();
    }

    public int drawn(int n, int a, int i, int what) {
        if (!in(n, 2, 12) || !in(a, 0, 100) || !in(what, 0, 1) || what == 0 && !in(i, 0, n - 1)) {
            return -1;
        }
        return what == 1 ? reachOf(n, a) : drawnWeights(n, a).get(i).size;
    }

    public int fewest(int a, int reach) {
        for (int n = 2; n <= 12 && in(a, 0, 100) && in(reach, 1, 4095); n++) {
            if (reachOf(n, a) >= reach) {
                return n;
            }
        }
        return -1;
    }

    public int loosest(int n, int reach) {
        for (int a = 0; a <= 100 && in(n, 2, 12) && in(reach, 1, 4095); a++) {
            if (reachOf(n, a) >= reach) {
                return a;
            }
        }
        return -1;
    }

    public boolean draw(int n, int a) {
        if (!in(n, 2, 12) || !in(a, 0, 100)) {
            return false;
        }
        s.bits = drawnWeights(n, a);
        s.seen.clear();
        latest = null;
        return true;
    }

    // ---- hours ----

    private static int hourOf(State s) {
        int changed = 0;
        for (int i = 0; i < s.bits.size(); i++) {
            Bit b = s.bits.get(i);
            int more = s.drift.isEmpty() ? 0 : new Reckoner(s.drift, s, i).sum();
            more = more < -9 ? -9 : more > 9 ? 9 : more;
            int next = b.off + more;
            next = next < -99 ? -99 : next > 99 ? 99 : next;
            if (b.size + next < 1) {
                next = 1 - b.size;
            }
            changed += next != b.off ? 1 : 0;
            b.off = next;
        }
        s.hour++;
        return changed;
    }

    public int pass(int n) {
        if (!in(n, 1, 100)) {
            return -1;
        }
        int changed = 0;
        for (int k = 0; k < n; k++) {
            changed += hourOf(s);
        }
        return changed;
    }

    public int due(int p, int b) {
        if (none() || p < 0 || !span(0, b, s.five[4])) {
            return -2;
        }
        State one = s.onPaper();
        for (int hours = 0; hours <= 100; hours++) {
            for (int x = 0; x <= b; x += one.five[4]) {
                if (Math.abs(paper(one, x) * one.five[4] - x) > p) {
                    return hours;
                }
            }
            hourOf(one);
        }
        return -1;
    }

    public int plan(int k, int n, int what) {
        if (none() || !in(k, 1, s.bits.size()) || !in(n, 1, 40) || !in(what, 0, 2) || s.sizes() / s.five[4] > 1999) {
            return -1;
        }
        State one = s.onPaper();
        List<Integer> when = new ArrayList<>();
        int vain = 0;
        for (int hour = 0; hour < n; hour++) {
            if (misses(one)) {
                when.add(hour);
                learnOn(one, k, 1);
                vain += misses(one) ? 1 : 0;
            }
            hourOf(one);
        }
        return new int[] {when.size(), when.isEmpty() ? -1 : when.get(0), vain}[what];
    }

    // ---- seen, faults, kept ----

    public int see(int x, int code) {
        if (!near(x)) {
            return -2;
        }
        if (s.seen.size() == 8) {
            return -1;
        }
        s.seen.add(new int[] {x, code});
        return s.seen.size();
    }

    public int wipe() {
        int was = s.seen.size();
        s.seen.clear();
        return was;
    }

    public int faults(int kind, int what) {
        if (none() || !in(kind, 0, 1) || !in(what, 0, 2)) {
            return -100;
        }
        List<int[]> all = new ArrayList<>();
        for (int i = 0; i < s.bits.size(); i++) {
            for (int v = -20; v <= 20; v++) {
                State one = s.onPaper();
                Bit b = one.bits.get(i);
                if (kind == 0 ? !in(v, 0, 1) : v == 0 || b.weight() + v < 1) {
                    continue;
                }
                if (kind == 0) {
                    b.stuck = v;
                } else {
                    b.off += v;
                }
                if (one.seen.stream().allMatch(seen -> paper(one, seen[0]) == seen[1])) {
                    all.add(new int[] {all.size(), i, v});
                }
            }
        }
        return what == 0 ? all.size() : all.isEmpty() ? -100 : all.get(0)[what];
    }

    public boolean keep(int i) {
        if (!in(i, 0, 2)) {
            return false;
        }
        kept[i] = s.copy();
        return true;
    }

    public boolean back(int i) {
        if (!in(i, 0, 2) || kept[i] == null) {
            return false;
        }
        s = kept[i].copy();
        latest = null;
        return true;
    }
}
