/** A converter by halving that mends itself; the promises it keeps stand in ../shared/DOC.md. */
public final class HalvingMender {
    public static final int NONE = -1;

    /** What a call answers that has no number to tell: of conversions, of state, of DUE and SLACK, of FAULTS. */
    private static final int UNTOLD = -1000000;
    private static final int NO_ENTRY = -100000;
    private static final int REFUSED = -2;
    private static final int NO_FAULTS = -100;

    private static final int MOST_BITS = 12;
    private static final int MOST_OFF = 99;
    private static final int FARTHEST = 100000;
    private static final int MOST_XS = 2000;
    private static final int MOST_SLACK = 2000;
    private static final int MOST_SEEN = 8;
    private static final int MOST_BYTES = 400;
    private static final int MOST_KEPT = 3;
    private static final int MOST_SUMMED = 20000;

    private final Tape tape = new Tape();
    private final Converter now = new Converter();
    /** What is only asked about is tried on this one, so that the CONVERTER itself stays. */
    private final Converter aside = new Converter();
    private final Converter[] kept = new Converter[MOST_KEPT];
    private final Conversion latest = new Conversion();
    /** Conversions that are none of convert()'s are told here. */
    private final Conversion passing = new Conversion();
    private final Tally tally = new Tally();
    private final Acts acts = new Acts();
    private final int[] written = new int[MOST_BITS];
    private int writtenCount = 0;
    private int faultPlace = NONE;

    public HalvingMender() {
    }

    // ---- the tape and what is read from it ----

    public int feed(int a, int b, int c, int d, int e) {
        if (tape.count + 20 > MOST_BYTES) {
            return NONE;
        }
        tape.append(a);
        tape.append(b);
        tape.append(c);
        tape.append(d);
        tape.append(e);
        return tape.count;
    }

    public int end(int n) {
        if (n < 0 || n > tape.count) {
            return NONE;
        }
        tape.count = n;
        return n;
    }

    public int text() {
        aside.clear();
        TextForm.read(tape, aside);
        if (!leaveTape()) {
            return NONE;
        }
        now.takeForm(aside);
        now.seenCount = 0;
        latest.bits = 0;
        return now.bits;
    }

    public int drift() {
        Drift told = new Drift();
        told.read(tape);
        if (!leaveTape()) {
            return NONE;
        }
        now.drift = told;
        return told.things;
    }

    public int bench() {
        acts.read(tape);
        if (!leaveTape()) {
            return NONE;
        }
        acts.begin();
        int ahead = Acts.UNDONE;
        for (int k = 0; k < acts.count; k++) {
            ahead = perform(acts.kind[k], acts.one[k], acts.two[k], ahead);
            if (ahead == Acts.UNDONE) {
                acts.ended = k;
                return acts.done;
            }
            acts.note(ahead);
        }
        return acts.done;
    }

    public int fault() {
        return faultPlace;
    }

    /** The tape is empty behind every reading, a faulty one too. */
    private boolean leaveTape() {
        faultPlace = tape.fault;
        tape.count = 0;
        return faultPlace == NONE;
    }

    /** What the ACT told, or UNDONE if it was refused. */
    private int perform(int kind, int one, int two, int ahead) {
        switch (kind) {
            case 'c':
                return toldUnless(convert(one), UNTOLD);
            case 'l':
                return toldUnless(learn(one, two), NONE);
            case 'p':
                return toldUnless(pass(one), NONE);
            case 'h':
                return heat(one) ? 1 : Acts.UNDONE;
            case 's':
                return stick(one, two) ? 1 : Acts.UNDONE;
            case 'o':
                return off(one, two) ? 1 : Acts.UNDONE;
            case 'f':
                return forget();
            case 'x':
                seed(one);
                return 1;
            case '=':
                return one == ahead ? one : Acts.UNDONE;
            default:
                return Acts.UNDONE;
        }
    }

    private static int toldUnless(int told, int refusal) {
        return told == refusal ? Acts.UNDONE : told;
    }

    public int stopped() {
        return acts.ended;
    }

    public int row(int k) {
        return k >= 0 && k < acts.done ? acts.told[k] : UNTOLD;
    }

    // ---- what it is, and what is set ----

    public int is(int what) {
        switch (what) {
            case 0:
                return now.bits;
            case 1:
                return now.offset;
            case 2:
                return now.band;
            case 3:
                return now.rule;
            case 4:
                return now.noise;
            case 5:
                return now.step;
            case 6:
                return now.draws;
            case 7:
                return now.seenCount;
            case 8:
                return tape.count;
            case 9:
                return now.weightsBelow(now.bits);
            case 10:
                return now.allWorths();
            case 11:
                return now.heat;
            case 12:
                return now.hour;
            default:
                return NO_ENTRY;
        }
    }

    public int bit(int i, int what) {
        if (!hasBit(i)) {
            return NO_ENTRY;
        }
        switch (what) {
            case 0:
                return now.size[i];
            case 1:
                return now.off[i];
            case 2:
                return now.worth[i];
            case 3:
                return now.stuck[i];
            case 4:
                return now.weight(i);
            case 5:
                return now.isShort(i) ? 1 : 0;
            default:
                return NO_ENTRY;
        }
    }

    public boolean off(int i, int v) {
        if (!hasBit(i) || !within(v, -MOST_OFF, MOST_OFF) || now.size[i] + v < 1) {
            return false;
        }
        now.off[i] = v;
        return true;
    }

    public boolean set(int what, int v) {
        if (!Converter.mayBeSet(what, v)) {
            return false;
        }
        now.put(what, v);
        return true;
    }

    public boolean stick(int i, int v) {
        if (!hasBit(i) || !within(v, NONE, 1)) {
            return false;
        }
        now.stuck[i] = v;
        return true;
    }

    public int seed(int x) {
        int was = now.draws;
        now.draws = x;
        return was;
    }

    public boolean heat(int v) {
        if (!within(v, 0, 99)) {
            return false;
        }
        now.heat = v;
        return true;
    }

    // ---- conversions ----

    public int convert(int x) {
        if (now.bits == 0 || !isNear(x)) {
            return UNTOLD;
        }
        now.run(x, now.offset, now.bits, latest);
        return latest.code;
    }

    public int decision(int i, int what) {
        if (i < 0 || i >= latest.bits) {
            return UNTOLD;
        }
        switch (what) {
            case 0:
                return latest.one[i];
            case 1:
                return latest.late[i];
            case 2:
                return latest.apart[i];
            case 3:
                return latest.held[i];
            default:
                return UNTOLD;
        }
    }

    public int converted(int what) {
        if (latest.bits == 0) {
            return UNTOLD;
        }
        switch (what) {
            case 0:
                return latest.sum;
            case 1:
                return latest.heldAtEnd;
            case 2:
                return latest.left;
            case 3:
                return latest.lates;
            case 4:
                return latest.ones;
            case 5:
                return latest.code;
            default:
                return UNTOLD;
        }
    }

    public int write() {
        if (latest.bits == 0) {
            return NONE;
        }
        writtenCount = 0;
        for (int i = latest.bits - 1; i >= 0; i--) {
            written[writtenCount] = latest.sign(i);
            writtenCount++;
        }
        return writtenCount;
    }

    public int octet(int k) {
        return k >= 0 && k < writtenCount ? written[k] : NONE;
    }

    public int mean(int x, int r) {
        if (now.bits == 0 || !isNear(x) || !within(r, 1, 100)) {
            return UNTOLD;
        }
        long together = 0;
        for (int n = 0; n < r; n++) {
            now.run(x, now.offset, now.bits, passing);
            together += passing.code;
        }
        return nearest(together, r);
    }

    // ---- learning ----

    public int learn(int k, int r) {
        if (!within(k, 1, now.bits) || !within(r, 1, 8)) {
            return NONE;
        }
        now.learnFrom(k, r, passing);
        int count = 0;
        for (int i = k; i < now.bits; i++) {
            if (now.isShort(i)) {
                count++;
            }
        }
        return count;
    }

    public int forget() {
        int changed = 0;
        for (int i = 0; i < now.bits; i++) {
            if (now.worth[i] != now.size[i]) {
                changed++;
            }
            now.worth[i] = now.size[i];
        }
        return changed;
    }

    // ---- on paper ----

    public int code(int x) {
        return now.bits == 0 || !isNear(x) ? UNTOLD : now.paperCode(x);
    }

    public int forgiven(int x, int i) {
        if (!hasBit(i) || !isNear(x)) {
            return NONE;
        }
        return now.forgives(x, i) ? 1 : 0;
    }

    public int slack(int i) {
        return hasBit(i) ? now.slackOf(i) : REFUSED;
    }

    public int tightest(int what) {
        if (now.bits < 2 || !within(what, 0, 1)) {
            return REFUSED;
        }
        int which = 1;
        int least = now.slackOf(1);
        for (int i = 2; i < now.bits; i++) {
            int one = now.slackOf(i);
            if (one < least) {
                least = one;
                which = i;
            }
        }
        return what == 0 ? which : least;
    }

    public int gap(int what) {
        if (now.bits == 0 || !within(what, 0, 1)) {
            return REFUSED;
        }
        int which = NONE;
        int widest = 0;
        for (int i = 0; i < now.bits; i++) {
            int wide = now.weight(i) - now.weightsBelow(i) - 1;
            if (wide > widest) {
                widest = wide;
                which = i;
            }
        }
        return what == 0 ? widest : which;
    }

    public int histogram(int a, int b, int c, int what) {
        if (now.bits == 0 || !isSpan(a, b, c) || !within(what, 0, 9)) {
            return UNTOLD;
        }
        tally.measure(now, a, b, c);
        tally.sortOut();
        return tally.tell(what);
    }

    public int often(int a, int b, int c, int code) {
        if (now.bits == 0 || !isSpan(a, b, c)) {
            return NONE;
        }
        tally.measure(now, a, b, c);
        return tally.howOften(code);
    }

    public int first(int a, int b, int code) {
        if (now.bits == 0 || !isSpan(a, b, 1)) {
            return UNTOLD;
        }
        for (int x = a; x <= b; x++) {
            if (now.paperCode(x) >= code) {
                return x;
            }
        }
        return UNTOLD;
    }

    public int ways(int sum) {
        if (!canSum()) {
            return NONE;
        }
        tally.addUp(now);
        return tally.howOften(sum);
    }

    public int sums(int what) {
        if (!canSum()) {
            return NONE;
        }
        tally.addUp(now);
        tally.sortOut();
        switch (what) {
            case 0:
                return tally.unlike;
            case 1:
                return tally.most;
            case 2:
                return tally.mostCome;
            case 3:
                return tally.firstMissing;
            default:
                return NONE;
        }
    }

    private boolean canSum() {
        return now.bits > 0 && now.allWorths() <= MOST_SUMMED;
    }

    public int apart(int i, int a, int b, int what) {
        if (now.bits == 0 || !isSpan(a, b, 1) || !within(what, 0, 2)) {
            return UNTOLD;
        }
        if (!isKept(i) || kept[i].bits == 0) {
            return UNTOLD;
        }
        int many = 0;
        int firstX = UNTOLD;
        int farthest = 0;
        for (int x = a; x <= b; x++) {
            int far = Math.abs(now.paperCode(x) - kept[i].paperCode(x));
            if (far != 0 && many == 0) {
                firstX = x;
            }
            if (far != 0) {
                many++;
            }
            farthest = Math.max(farthest, far);
        }
        return what == 0 ? many : what == 1 ? firstX : farthest;
    }

    // ---- crowds and drawn weights ----

    public int crowd(int seed, int m, int p, int k, int what) {
        if (!within(m, 1, 20) || !within(p, 0, MOST_OFF) || !within(what, 0, 2) || !canLearnByCodes(k)) {
            return NONE;
        }
        setAsideOnPaper();
        aside.draws = seed;
        int count = 0;
        for (int n = 0; n < m; n++) {
            aside.drawOffs(p);
            boolean ahead = tally.isWhole(aside);
            aside.learnFrom(k, 1, passing);
            boolean behind = tally.isWhole(aside);
            if (what == 0 ? ahead : what == 1 ? behind : behind && !ahead) {
                count++;
            }
        }
        return count;
    }

    /** Whether there is a BIT to learn from on, and a HISTOGRAM over all SIZES has few enough x. */
    private boolean canLearnByCodes(int k) {
        return within(k, 1, now.bits) && now.step > 0 && now.allSizes() / now.step < MOST_XS;
    }

    /** ON PAPER: without NOISE and by RULE 3 no CONVERSION draws. */
    private void setAsideOnPaper() {
        aside.copyFrom(now);
        aside.noise = 0;
        aside.rule = 3;
    }

    public int drawn(int n, int a, int i, int what) {
        if (!isDrawable(n, a) || !within(what, 0, 1)) {
            return NONE;
        }
        aside.drawWeights(n, a);
        if (what == 1) {
            return aside.weightsBelow(n);
        }
        return within(i, 0, n - 1) ? aside.size[i] : NONE;
    }

    public int fewest(int a, int reach) {
        if (!isReach(reach)) {
            return NONE;
        }
        for (int n = 2; n <= MOST_BITS; n++) {
            if (reachDrawn(n, a) >= reach) {
                return n;
            }
        }
        return NONE;
    }

    public int loosest(int n, int reach) {
        if (!isReach(reach)) {
            return NONE;
        }
        for (int a = 0; a <= 100; a++) {
            if (reachDrawn(n, a) >= reach) {
                return a;
            }
        }
        return NONE;
    }

    public boolean draw(int n, int a) {
        if (!isDrawable(n, a)) {
            return false;
        }
        now.drawWeights(n, a);
        now.seenCount = 0;
        latest.bits = 0;
        return true;
    }

    private int reachDrawn(int n, int a) {
        if (!isDrawable(n, a)) {
            return NONE;
        }
        aside.drawWeights(n, a);
        return aside.weightsBelow(n);
    }

    private static boolean isDrawable(int n, int a) {
        return within(n, 2, MOST_BITS) && within(a, 0, 100);
    }

    private static boolean isReach(int reach) {
        return within(reach, 1, 4095);
    }

    // ---- hours ----

    public int pass(int n) {
        if (!within(n, 1, 100)) {
            return NONE;
        }
        int changed = 0;
        for (int k = 0; k < n; k++) {
            changed += now.passHour();
        }
        return changed;
    }

    public int due(int p, int b) {
        if (now.bits == 0 || p < 0 || !isSpan(0, b, now.step)) {
            return REFUSED;
        }
        aside.copyFrom(now);
        for (int hours = 0; hours <= 100; hours++) {
            tally.measure(aside, 0, b, aside.step);
            if (tally.offBy > p) {
                return hours;
            }
            aside.passHour();
        }
        return NONE;
    }

    public int plan(int k, int n, int what) {
        if (!within(n, 1, 40) || !within(what, 0, 2) || !canLearnByCodes(k)) {
            return NONE;
        }
        setAsideOnPaper();
        int often = 0;
        int firstHour = NONE;
        int inVain = 0;
        for (int hour = 0; hour < n; hour++) {
            if (!tally.isWhole(aside)) {
                firstHour = often == 0 ? hour : firstHour;
                often++;
                aside.learnFrom(k, 1, passing);
                inVain += tally.isWhole(aside) ? 0 : 1;
            }
            aside.passHour();
        }
        return what == 0 ? often : what == 1 ? firstHour : inVain;
    }

    // ---- what was seen ----

    public int see(int x, int code) {
        if (!isNear(x)) {
            return REFUSED;
        }
        if (now.seenCount >= MOST_SEEN) {
            return NONE;
        }
        now.seenX[now.seenCount] = x;
        now.seenCode[now.seenCount] = code;
        now.seenCount++;
        return now.seenCount;
    }

    public int wipe() {
        int was = now.seenCount;
        now.seenCount = 0;
        return was;
    }

    public int faults(int kind, int what) {
        if (now.bits == 0 || !within(kind, 0, 1) || !within(what, 0, 2)) {
            return NO_FAULTS;
        }
        aside.copyFrom(now);
        int many = 0;
        int firstBit = NO_FAULTS;
        int firstV = NO_FAULTS;
        int low = kind == 0 ? 0 : -20;
        int high = kind == 0 ? 1 : 20;
        for (int i = 0; i < now.bits; i++) {
            for (int v = low; v <= high; v++) {
                if (explains(kind, i, v)) {
                    firstBit = many == 0 ? i : firstBit;
                    firstV = many == 0 ? v : firstV;
                    many++;
                }
            }
        }
        return what == 0 ? many : what == 1 ? firstBit : firstV;
    }

    private boolean explains(int kind, int i, int v) {
        if (kind == 0) {
            aside.stuck[i] = v;
        } else {
            if (v == 0 || now.weight(i) + v < 1) {
                return false;
            }
            aside.off[i] = now.off[i] + v;
        }
        boolean so = aside.agreesWithSeen();
        aside.stuck[i] = now.stuck[i];
        aside.off[i] = now.off[i];
        return so;
    }

    // ---- kept, gone back to ----

    public boolean keep(int i) {
        if (!within(i, 0, MOST_KEPT - 1)) {
            return false;
        }
        if (kept[i] == null) {
            kept[i] = new Converter();
        }
        kept[i].copyFrom(now);
        return true;
    }

    public boolean back(int i) {
        if (!isKept(i)) {
            return false;
        }
        now.copyFrom(kept[i]);
        latest.bits = 0;
        return true;
    }

    private boolean isKept(int i) {
        return within(i, 0, MOST_KEPT - 1) && kept[i] != null;
    }

    // ---- what several ask ----

    private boolean hasBit(int i) {
        return i >= 0 && i < now.bits;
    }

    private static boolean within(int v, int low, int high) {
        return v >= low && v <= high;
    }

    private static boolean isNear(int x) {
        return within(x, -FARTHEST, FARTHEST);
    }

    /** Whether a HISTOGRAM goes from a up to b by c. */
    private static boolean isSpan(int a, int b, int c) {
        return a >= -FARTHEST && b <= FARTHEST && a <= b && c >= 1 && (b - a) / c < MOST_XS;
    }

    /** together by n, to the nearest, halves up; none of both is below 0. */
    private static int nearest(long together, int n) {
        return n < 1 ? 0 : (int) ((together * 2 + n) / (n * 2L));
    }

    /** The bytes that were fed, and a place in them for who reads them. */
    private static final class Tape {
        final int[] bytes = new int[MOST_BYTES];
        int count = 0;
        int at = 0;
        int fault = NONE;

        void append(int four) {
            for (int shift = 24; shift >= 0; shift -= 8) {
                if (count < bytes.length) {
                    bytes[count] = (four >>> shift) & 255;
                    count++;
                }
            }
        }

        void rewind() {
            at = 0;
            fault = NONE;
        }

        boolean goesOn() {
            return fault == NONE && at < count;
        }

        /** The byte that is next; NONE behind the last. */
        int peek() {
            return at >= 0 && at < count ? bytes[at] : NONE;
        }

        void blame(int place) {
            if (fault == NONE) {
                fault = place;
            }
        }

        boolean takes(int sign) {
            if (fault != NONE || peek() != sign) {
                return false;
            }
            at++;
            return true;
        }

        void needs(int sign) {
            if (!takes(sign)) {
                blame(at);
            }
        }

        boolean isAtDigit() {
            return peek() >= '0' && peek() <= '9';
        }

        /** A number of 1 to 4 digits; a fifth is blamed here, for such a number has no end that could be asked. */
        int number() {
            if (!isAtDigit()) {
                blame(at);
                return 0;
            }
            int value = 0;
            for (int n = 0; n < 4 && isAtDigit(); n++) {
                value = value * 10 + peek() - '0';
                at++;
            }
            if (isAtDigit()) {
                blame(at);
            }
            return value;
        }

        int signedNumber() {
            boolean minus = takes('-');
            int value = number();
            return minus ? -value : value;
        }

        /** Answers whether no fault was yet; a number that is not as told is blamed at its first byte. */
        boolean holds(boolean asTold, int place) {
            if (!asTold) {
                blame(place);
            }
            return fault == NONE;
        }
    }

    /** Reads THE TEXT. */
    private static final class TextForm {
        /** What each of the five sets, by its place here as in set(). */
        private static final char[] LETTERS = {'o', 'd', 'r', 'n', 'g'};

        static void read(Tape tape, Converter into) {
            tape.rewind();
            int told = 0;
            for (int n = 0; n < MOST_BYTES && tape.goesOn(); n++) {
                if (tape.peek() == 'b') {
                    readBit(tape, into);
                } else {
                    told |= readSetting(tape, into, told);
                }
            }
            if (into.bits < 2) {
                tape.blame(tape.at);
            }
        }

        private static void readBit(Tape tape, Converter into) {
            int start = tape.at;
            if (into.bits >= MOST_BITS) {
                tape.blame(start);
                return;
            }
            tape.at++;
            int place = tape.at;
            int size = tape.number();
            if (!tape.holds(size >= 1, place)) {
                return;
            }
            int off = 0;
            if (tape.takes(':')) {
                place = tape.at;
                off = tape.signedNumber();
                tape.holds(within(off, -MOST_OFF, MOST_OFF), place);
            }
            tape.needs(';');
            if (tape.holds(size + off >= 1, start)) {
                into.addBit(size, off);
            }
        }

        /** Answers the setting's flag among those that were told. */
        private static int readSetting(Tape tape, Converter into, int told) {
            int what = settingOf(tape.peek());
            if (what == NONE || (told & (1 << what)) != 0) {
                tape.blame(tape.at);
                return 0;
            }
            tape.at++;
            int place = tape.at;
            int v = what == 0 ? tape.signedNumber() : tape.number();
            tape.holds(Converter.mayBeSet(what, v), place);
            tape.needs(';');
            if (tape.fault == NONE) {
                into.put(what, v);
            }
            return 1 << what;
        }

        private static int settingOf(int letter) {
            for (int k = 0; k < LETTERS.length; k++) {
                if (LETTERS[k] == letter) {
                    return k;
                }
            }
            return NONE;
        }
    }

    /** What a CONVERSION decided, BIT by BIT; without BITS there was none. */
    private static final class Conversion {
        int bits = 0;
        final int[] one = new int[MOST_BITS];
        final int[] late = new int[MOST_BITS];
        final int[] apart = new int[MOST_BITS];
        final int[] held = new int[MOST_BITS];
        int sum = 0;
        int heldAtEnd = 0;
        int left = 0;
        int lates = 0;
        int ones = 0;
        int code = 0;

        void begin(int count) {
            bits = count;
            sum = 0;
            heldAtEnd = 0;
            lates = 0;
            ones = 0;
        }

        int sign(int i) {
            if (late[i] == 1) {
                return one[i] == 1 ? '+' : '-';
            }
            return one[i] == 1 ? '1' : '0';
        }
    }

    /** The CONVERTER: all that is KEPT and gone back to. */
    private static final class Converter {
        int bits = 0;
        final int[] size = new int[MOST_BITS];
        final int[] off = new int[MOST_BITS];
        final int[] worth = new int[MOST_BITS];
        final int[] stuck = new int[MOST_BITS];
        int offset = 0;
        int band = 0;
        int rule = 3;
        int noise = 0;
        int step = 1;
        int draws = 1;
        int heat = 0;
        int hour = 0;
        Drift drift = new Drift();
        final int[] seenX = new int[MOST_SEEN];
        final int[] seenCode = new int[MOST_SEEN];
        int seenCount = 0;

        /** As a text is that tells nothing. */
        void clear() {
            bits = 0;
            offset = 0;
            band = 0;
            rule = 3;
            noise = 0;
            step = 1;
        }

        void addBit(int newSize, int newOff) {
            if (bits < MOST_BITS) {
                size[bits] = newSize;
                off[bits] = newOff;
                worth[bits] = newSize;
                stuck[bits] = NONE;
                bits++;
            }
        }

        /** Takes what a text tells, and leaves the rest. */
        void takeForm(Converter from) {
            bits = from.bits;
            System.arraycopy(from.size, 0, size, 0, MOST_BITS);
            System.arraycopy(from.off, 0, off, 0, MOST_BITS);
            System.arraycopy(from.worth, 0, worth, 0, MOST_BITS);
            System.arraycopy(from.stuck, 0, stuck, 0, MOST_BITS);
            offset = from.offset;
            band = from.band;
            rule = from.rule;
            noise = from.noise;
            step = from.step;
        }

        void copyFrom(Converter from) {
            takeForm(from);
            draws = from.draws;
            heat = from.heat;
            hour = from.hour;
            drift = from.drift;
            System.arraycopy(from.seenX, 0, seenX, 0, MOST_SEEN);
            System.arraycopy(from.seenCode, 0, seenCode, 0, MOST_SEEN);
            seenCount = from.seenCount;
        }

        static boolean mayBeSet(int what, int v) {
            switch (what) {
                case 0:
                    return within(v, -MOST_OFF, MOST_OFF);
                case 1:
                    return within(v, 0, 50);
                case 2:
                    return within(v, 0, 3);
                case 3:
                    return within(v, 0, 20);
                case 4:
                    return within(v, 1, 64);
                default:
                    return false;
            }
        }

        void put(int what, int v) {
            switch (what) {
                case 0:
                    offset = v;
                    break;
                case 1:
                    band = v;
                    break;
                case 2:
                    rule = v;
                    break;
                case 3:
                    noise = v;
                    break;
                case 4:
                    step = v;
                    break;
                default:
                    break;
            }
        }

        int weight(int i) {
            return size[i] + off[i];
        }

        int weightsBelow(int i) {
            int together = 0;
            for (int k = 0; k < i && k < bits; k++) {
                together += weight(k);
            }
            return together;
        }

        int allSizes() {
            int together = 0;
            for (int i = 0; i < bits; i++) {
                together += size[i];
            }
            return together;
        }

        int allWorths() {
            int together = 0;
            for (int i = 0; i < bits; i++) {
                together += worth[i];
            }
            return together;
        }

        boolean isShort(int i) {
            return weight(i) > weightsBelow(i);
        }

        int drawOf(int m) {
            draws = draws * 1103515245 + 12345;
            return m < 1 ? 0 : (draws >>> 16) % m;
        }

        /** A CONVERSION of x by the lowest top BITS, with NOISE and RULE, told in c. */
        void run(int x, int shift, int top, Conversion c) {
            c.begin(top);
            for (int i = top - 1; i >= 0; i--) {
                int noised = noise > 0 ? drawOf(noise * 2 + 1) - noise : 0;
                c.apart[i] = x + shift + noised - c.heldAtEnd - weight(i);
                c.late[i] = isLate(i, c.apart[i]) ? 1 : 0;
                c.one[i] = decide(i, c.apart[i], c.late[i] == 1);
                if (c.one[i] == 1) {
                    c.heldAtEnd += weight(i);
                    c.sum += worth[i];
                    c.ones++;
                }
                c.lates += c.late[i];
                c.held[i] = c.heldAtEnd;
            }
            c.left = x + shift - c.heldAtEnd;
            c.code = codeOf(c.sum);
        }

        private boolean isLate(int i, int d) {
            return stuck[i] == NONE && d > -band && d < band;
        }

        private int decide(int i, int d, boolean isLate) {
            if (stuck[i] != NONE) {
                return stuck[i];
            }
            if (isLate && rule < 3) {
                return rule == 2 ? drawOf(2) : 1 - rule;
            }
            return d >= 0 ? 1 : 0;
        }

        int codeOf(int sum) {
            return step < 1 ? 0 : (sum * 2 + step) / (step * 2);
        }

        /** SUM of a CONVERSION ON PAPER, the DECISION of BIT turned being turned round (NONE: of no BIT). */
        int paperSum(int x, int turned) {
            int left = x + offset;
            int sum = 0;
            for (int i = bits - 1; i >= 0; i--) {
                int one = stuck[i] != NONE ? stuck[i] : left >= weight(i) ? 1 : 0;
                if (i == turned) {
                    one = 1 - one;
                }
                if (one == 1) {
                    left -= weight(i);
                    sum += worth[i];
                }
            }
            return sum;
        }

        int paperCode(int x) {
            return codeOf(paperSum(x, NONE));
        }

        boolean forgives(int x, int i) {
            return codeOf(paperSum(x, i)) == paperCode(x);
        }

        int slackOf(int i) {
            int middle = weight(i) - offset;
            for (int s = 0; s <= MOST_SLACK; s++) {
                if (!forgives(middle - s, i) || !forgives(middle + s, i)) {
                    return s - 1;
                }
            }
            return MOST_SLACK;
        }

        /** LEARN from k on, r times; by NOISE and RULE as they are. */
        void learnFrom(int k, int r, Conversion c) {
            for (int i = 0; i < k && i < bits; i++) {
                worth[i] = size[i];
            }
            for (int i = k; i < bits; i++) {
                long together = 0;
                for (int n = 0; n < r; n++) {
                    run(weight(i), offset, i, c);
                    together += c.sum;
                    run(weight(i), -offset, i, c);
                    together += c.sum;
                }
                worth[i] = nearest(together, r * 2);
            }
        }

        /** Answers how many OFFS became other ones. */
        int passHour() {
            int changed = 0;
            for (int i = 0; i < bits; i++) {
                int more = Math.max(-9, Math.min(9, drift.ask(this, i)));
                int next = Math.max(-MOST_OFF, Math.min(MOST_OFF, off[i] + more));
                next = Math.max(next, 1 - size[i]);
                if (next != off[i]) {
                    changed++;
                }
                off[i] = next;
            }
            hour++;
            return changed;
        }

        /** Becomes one of a CROWD, with OFFS up to p. */
        void drawOffs(int p) {
            for (int i = 0; i < bits; i++) {
                off[i] = Math.max(drawOf(2 * p + 1) - p, 1 - size[i]);
                stuck[i] = NONE;
                worth[i] = size[i];
            }
        }

        void drawWeights(int n, int a) {
            bits = 0;
            int below = 0;
            for (int i = 0; i < n; i++) {
                int next = i == 0 ? 1 : 1 + a * below / 100;
                addBit(next, 0);
                below += next;
            }
        }

        boolean agreesWithSeen() {
            for (int n = 0; n < seenCount; n++) {
                if (paperCode(seenX[n]) != seenCode[n]) {
                    return false;
                }
            }
            return true;
        }
    }

    /** DRIFT, kept as its things in the order in which they are reckoned; one that was read never changes. */
    private static final class Drift {
        private static final int MOST_THINGS = 40;
        private static final int DEEPEST = 8;
        /** Each THING and each sign between two is at most one step. */
        private static final int MOST_STEPS = 80;

        private final int[] kind = new int[MOST_STEPS];
        private final int[] value = new int[MOST_STEPS];
        private final int[] stack = new int[MOST_THINGS];
        private int steps = 0;
        private int height = 0;
        int things = 0;

        void read(Tape tape) {
            tape.rewind();
            if (tape.count == 0) {
                return;
            }
            readSum(tape, 1);
            if (tape.at < tape.count) {
                tape.blame(tape.at);
            }
        }

        private void readSum(Tape tape, int depth) {
            readProduct(tape, depth);
            for (int n = 0; n < MOST_BYTES && tape.goesOn(); n++) {
                int sign = tape.peek();
                if (sign != '+' && sign != '-') {
                    return;
                }
                tape.at++;
                readProduct(tape, depth);
                add(sign, 0);
            }
        }

        private void readProduct(Tape tape, int depth) {
            readThing(tape, depth);
            for (int n = 0; n < MOST_BYTES && tape.goesOn(); n++) {
                int sign = tape.peek();
                if (sign != '*' && sign != '/' && sign != '%') {
                    return;
                }
                tape.at++;
                readThing(tape, depth);
                add(sign, 0);
            }
        }

        private void readThing(Tape tape, int depth) {
            if (!tape.goesOn() || things >= MOST_THINGS || depth > DEEPEST) {
                tape.blame(tape.at);
                return;
            }
            things++;
            if (tape.isAtDigit()) {
                add('0', tape.number());
                return;
            }
            int sign = tape.peek();
            if (sign == 'i' || sign == 's' || sign == 'w' || sign == 'h' || sign == 't') {
                tape.at++;
                add(sign, 0);
            } else if (tape.takes('(')) {
                readSum(tape, depth + 1);
                tape.needs(')');
            } else if (tape.takes('-')) {
                readThing(tape, depth + 1);
                add('n', 0);
            } else if (tape.takes('[')) {
                readChoice(tape, depth + 1);
            } else {
                tape.blame(tape.at);
            }
        }

        private void readChoice(Tape tape, int depth) {
            readSum(tape, depth);
            int sign = tape.peek();
            if (!tape.takes('<')) {
                tape.needs('=');
            }
            readSum(tape, depth);
            tape.needs('?');
            readSum(tape, depth);
            tape.needs(':');
            readSum(tape, depth);
            tape.needs(']');
            add(sign, 0);
        }

        private void add(int newKind, int newValue) {
            if (steps < MOST_STEPS) {
                kind[steps] = newKind;
                value[steps] = newValue;
                steps++;
            }
        }

        /** What it tells of BIT i; nothing in it acts, so both sides of a choice may be reckoned. */
        int ask(Converter c, int i) {
            height = 0;
            for (int n = 0; n < steps; n++) {
                if (isLeaf(kind[n])) {
                    push(leaf(kind[n], value[n], c, i));
                } else {
                    reckon(kind[n]);
                }
            }
            return pop();
        }

        private static boolean isLeaf(int k) {
            return k == '0' || k == 'i' || k == 's' || k == 'w' || k == 'h' || k == 't';
        }

        private static int leaf(int k, int number, Converter c, int i) {
            switch (k) {
                case 'i':
                    return i;
                case 's':
                    return c.size[i];
                case 'w':
                    return c.weight(i);
                case 'h':
                    return c.heat;
                case 't':
                    return c.hour;
                default:
                    return number;
            }
        }

        private void reckon(int k) {
            int right = pop();
            if (k == 'n') {
                push(-right);
                return;
            }
            int left = pop();
            if (k == '<' || k == '=') {
                int than = pop();
                int one = pop();
                push((k == '<' ? one < than : one == than) ? left : right);
                return;
            }
            push(joined(k, left, right));
        }

        private static int joined(int k, int left, int right) {
            switch (k) {
                case '+':
                    return left + right;
                case '-':
                    return left - right;
                case '*':
                    return left * right;
                case '/':
                    return right == 0 ? 0 : left / right;
                case '%':
                    return right == 0 ? 0 : left % right;
                default:
                    return 0;
            }
        }

        private void push(int v) {
            if (height < MOST_THINGS) {
                stack[height] = v;
                height++;
            }
        }

        /** 0 from nothing: so the empty DRIFT tells 0. */
        private int pop() {
            if (height < 1) {
                return 0;
            }
            height--;
            return stack[height];
        }
    }

    /** A BENCH: the ACTS that were read, and what those told that were done. */
    private static final class Acts {
        static final int MOST_ACTS = 40;
        /** Told by no ACT: each tells 0 or more. */
        static final int UNDONE = NONE;

        int count = 0;
        final int[] kind = new int[MOST_ACTS];
        final int[] one = new int[MOST_ACTS];
        final int[] two = new int[MOST_ACTS];
        int done = 0;
        final int[] told = new int[MOST_ACTS];
        int ended = NONE;

        void read(Tape tape) {
            tape.rewind();
            count = 0;
            for (int n = 0; n <= MOST_ACTS && tape.goesOn(); n++) {
                readAct(tape);
            }
        }

        private void readAct(Tape tape) {
            int letter = tape.peek();
            if (count >= MOST_ACTS || !isAct(letter)) {
                tape.blame(tape.at);
                return;
            }
            tape.at++;
            kind[count] = letter;
            one[count] = 0;
            two[count] = 0;
            if (letter == 'c' || letter == 'x' || letter == '=') {
                one[count] = tape.signedNumber();
            } else if (letter != 'f') {
                one[count] = tape.number();
            }
            if (letter == 'l' || letter == 's' || letter == 'o') {
                tape.needs(',');
                two[count] = letter == 'l' ? tape.number() : tape.signedNumber();
            }
            tape.needs(';');
            count++;
        }

        private static boolean isAct(int letter) {
            switch (letter) {
                case 'c':
                case 'l':
                case 'p':
                case 'h':
                case 's':
                case 'o':
                case 'f':
                case 'x':
                case '=':
                    return true;
                default:
                    return false;
            }
        }

        void begin() {
            done = 0;
            ended = NONE;
        }

        void note(int what) {
            if (done < MOST_ACTS) {
                told[done] = what;
                done++;
            }
        }
    }

    /** Numbers that are counted: the CODES of a HISTOGRAM, or all sums of WORTHS. */
    private static final class Tally {
        /** Room for the sums of all sets of BITS; a HISTOGRAM needs less. */
        private static final int MOST_ENTRIES = 4096;
        private static final int[] STRIDES = {1750, 701, 301, 132, 57, 23, 10, 4, 1};

        private final int[] entry = new int[MOST_ENTRIES];
        private int count = 0;
        private int falls = 0;
        int offBy = 0;
        private int offAt = 0;
        int unlike = 0;
        int most = 0;
        int mostCome = 0;
        private int least = 0;
        private int greatest = 0;
        private int missing = 0;
        int firstMissing = NONE;

        /** Takes the CODES from a up to b by c, and what hangs on their order. */
        void measure(Converter converter, int a, int b, int c) {
            count = 0;
            falls = 0;
            offBy = NONE;
            offAt = a;
            int xs = c < 1 ? 0 : (b - a) / c + 1;
            for (int n = 0; n < xs && n < MOST_ENTRIES; n++) {
                int x = a + n * c;
                int code = converter.paperCode(x);
                if (n > 0 && code < entry[n - 1]) {
                    falls++;
                }
                int far = Math.abs(code * converter.step - x);
                if (far > offBy) {
                    offBy = far;
                    offAt = x;
                }
                entry[n] = code;
                count++;
            }
        }

        /** Takes the sums of all sets of BITS. */
        void addUp(Converter converter) {
            entry[0] = 0;
            count = 1;
            for (int i = 0; i < converter.bits && count * 2 <= MOST_ENTRIES; i++) {
                for (int n = 0; n < count; n++) {
                    entry[count + n] = entry[n] + converter.worth[i];
                }
                count *= 2;
            }
        }

        int howOften(int number) {
            int often = 0;
            for (int n = 0; n < count; n++) {
                if (entry[n] == number) {
                    often++;
                }
            }
            return often;
        }

        /** Whether no code is MISSING from 0 up to all SIZES together by STEP. */
        boolean isWhole(Converter converter) {
            measure(converter, 0, converter.allSizes(), converter.step);
            sortOut();
            return missing == 0;
        }

        /** Sorts the entries, and counts like ones and gaps. */
        void sortOut() {
            sort();
            unlike = 0;
            most = 0;
            mostCome = 0;
            firstMissing = NONE;
            least = count > 0 ? entry[0] : 0;
            greatest = count > 0 ? entry[count - 1] : 0;
            int alike = 0;
            for (int n = 0; n < count; n++) {
                if (n > 0 && entry[n] == entry[n - 1]) {
                    alike++;
                } else {
                    alike = 1;
                    unlike++;
                    if (n > 0 && firstMissing == NONE && entry[n] > entry[n - 1] + 1) {
                        firstMissing = entry[n - 1] + 1;
                    }
                }
                if (alike > most) {
                    most = alike;
                    mostCome = entry[n];
                }
            }
            missing = greatest - least + 1 - unlike;
        }

        /** By strides: entries that are nearly in order, as CODES are, are sorted fast. */
        private void sort() {
            for (int k = 0; k < STRIDES.length; k++) {
                int stride = STRIDES[k];
                for (int n = stride; n < count; n++) {
                    int mover = entry[n];
                    int place = n;
                    for (; place >= stride && entry[place - stride] > mover; place -= stride) {
                        entry[place] = entry[place - stride];
                    }
                    entry[place] = mover;
                }
            }
        }

        int tell(int what) {
            switch (what) {
                case 0:
                    return unlike;
                case 1:
                    return missing;
                case 2:
                    return falls;
                case 3:
                    return offBy;
                case 4:
                    return offAt;
                case 5:
                    return mostCome;
                case 6:
                    return most;
                case 7:
                    return least;
                case 8:
                    return greatest;
                default:
                    return firstMissing;
            }
        }
    }
}
