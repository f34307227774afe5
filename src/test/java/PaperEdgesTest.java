/** Terms, LEARN and what is asked ON PAPER, and promises 17 to 24, 34, 35, 39 and 40: each limit from both sides. */
public final class PaperEdgesTest {
    private static final Due due = new Due("PaperEdgesTest");
    private static final int MIN = Integer.MIN_VALUE;
    private static final int MAX = Integer.MAX_VALUE;

    public static void main(String[] args) {
        learnFromTo();
        learnHalvesUp();
        learnByOffset();
        learnNothingAndAll();
        shortOnes();
        forget();
        forgiven();
        slack();
        tightest();
        spans();
        howManyXs();
        oneX();
        ties();
        missing();
        first();
        sums();
        gap();
        due.end();
    }

    private static long draws;

    private static int draw(int m) {
        draws = draws * 1103515245L + 12345L & 0xFFFFFFFFL;
        return (int) (draws / 65536 % m);
    }

    // ---- LEARN ----

    /** k from 1 to BITS, r from 1 to 8: by NOISE each CONVERSION draws for each BIT below. */
    private static void learnFromTo() {
        for (int k = -1; k <= 6; k++) {
            for (int r = -1; r <= 10; r++) {
                HalvingMender x = Due.of("b1;b2;b4;b8;n1;");
                boolean taken = k >= 1 && k <= 4 && r >= 1 && r <= 8;
                draws = 1;
                for (int i = Math.max(k, 1); taken && i < 4; i++) {
                    for (int n = 0; n < 2 * r * i; n++) {
                        draw(3);
                    }
                }
                due.is("learn(" + k + ", " + r + ")", x.learn(k, r), taken ? 4 - k : -1);
                due.is("X behind it", x.is(6), (int) draws);
            }
        }
        HalvingMender x = Due.of("b1;b2;b4;b8;");
        x.stick(0, 0);
        x.learn(1, 1);
        due.is("learnt", x.is(10), 1);
        due.is("from 3: those below are SIZES", x.learn(3, 1), 1);
        due.is("learnt", x.is(10), 1 + 2 + 4 + 6);
        due.is("from BITS: none is learnt", x.learn(4, 1), 0);
        due.is("SIZES", x.is(10), 15);
    }

    /** BIT 1 by BIT 0, that is drawn: together by 2 r; just half a one is 1. */
    private static void learnHalvesUp() {
        for (int r : new int[] {1, 2, 7, 8}) {
            boolean half = false;
            boolean less = false;
            for (int seed = 0; seed < 99; seed++) {
                HalvingMender x = Due.of("b1;b5;d50;r2;");
                x.seed(seed);
                draws = seed;
                int together = 0;
                for (int n = 0; n < 2 * r; n++) {
                    together += draw(2);
                }
                x.learn(1, r);
                due.is("WORTH by " + together + " of " + 2 * r, x.bit(1, 2), together >= r ? 1 : 0);
                half |= together == r;
                less |= together == r - 1;
            }
            due.is("just half was among them, and one less", half && less, true);
        }
    }

    private static void learnByOffset() {
        // BIT 1 (100) by BIT 0 (1): 100 and 99, 100 less 99: both hold 1; by 101 less than nothing is over
        HalvingMender x = Due.of("b1;b100;o99;");
        x.learn(1, 1);
        due.is("100 less 99 holds 1", x.bit(1, 2), 1);
        x.off(1, -1);
        x.learn(1, 1);
        due.is("99 less 99 holds nothing: halves up", x.bit(1, 2), 1);
        x.set(0, -99);
        x.learn(1, 1);
        due.is("OFFSET -99 the same", x.bit(1, 2), 1);
        due.is("OFFSET is as it was", x.is(1), -99);
        // 197 and -1 hold 2 and 0, twice as one
        HalvingMender y = Due.of("b2;b98;o99;");
        y.learn(1, 8);
        due.is("below 0 holds nothing", y.bit(1, 2), 1);
    }

    private static void learnNothingAndAll() {
        HalvingMender x = Due.of("b9999;".repeat(12));
        x.stick(0, 0);
        x.learn(2, 8);
        due.is("the BIT below k is its SIZE", x.bit(1, 2), 9999);
        due.is("BIT 2 by BIT 1", x.bit(2, 2), 9999);
        x.learn(1, 8);
        due.is("by nothing", x.bit(1, 2), 0);
        due.is("BIT 11", x.bit(11, 2), 0);
        due.is("WORTHS together", x.is(10), 9999);
        for (int i = 0; i < 12; i++) {
            x.stick(i, 1);
        }
        x.learn(1, 8);
        due.is("by all", x.bit(11, 2), 9999 << 10);
        due.is("WORTHS together", x.is(10), 9999 << 11);
        due.is("CODE", x.convert(-100000), 9999 << 11);
        due.is("HELD", x.converted(1), 12 * 9999);
        due.is("LEFT", x.converted(2), -100000 - 12 * 9999);
    }

    private static void shortOnes() {
        HalvingMender x = Due.of("b4;b4;b8;b15;b32:-1;");
        int[] isShort = {1, 0, 0, 0, 0};
        for (int i = 0; i < 5; i++) {
            due.is("SHORT, not above those below together: " + i, x.bit(i, 5), isShort[i]);
        }
        due.is("learn tells none", x.learn(1, 1), 0);
        x.off(4, 0);
        due.is("1 above: SHORT", x.bit(4, 5), 1);
        due.is("learn tells one", x.learn(1, 1), 1);
        due.is("from BIT 4 on, too", x.learn(4, 1), 1);
        due.is("none from BITS on", x.learn(5, 1), 0);
        x.off(1, 1);
        due.is("5 above 4", x.bit(1, 5), 1);
        due.is("and BIT 4 (32) not above 32", x.learn(1, 1), 1);
        due.is("from 2 on", x.learn(2, 1), 0);
        due.is("BIT 0 of WEIGHT 1", Due.of("b100:-99;b1;").bit(0, 5), 1);
    }

    private static void forget() {
        HalvingMender x = Due.of("b5;".repeat(12));
        due.is("none changed", x.forget(), 0);
        x.stick(0, 0);
        x.learn(1, 1);
        due.is("all but BIT 0", x.forget(), 11);
        due.is("SIZES", x.is(10), 60);
        due.is("none any more", x.forget(), 0);
        x.off(3, 7);
        due.is("an OFF is no WORTH", x.forget(), 0);
        due.is("no BITS", new HalvingMender().forget(), 0);
    }

    // ---- ON PAPER ----

    private static void forgiven() {
        HalvingMender x = Due.of("b1;b2;b2;b4;");
        due.is("BIT 3 at 4: 2 and 2", x.forgiven(4, 3), 1);
        due.is("BIT 3 at 3: 4 is no 3", x.forgiven(3, 3), 0);
        due.is("BIT 3 at 5", x.forgiven(5, 3), 1);
        due.is("BIT 3 at 6: 5 is all without", x.forgiven(6, 3), 0);
        due.is("BIT 0 at 1", x.forgiven(1, 0), 0);
        due.is("BIT 4", x.forgiven(1, 4), -1);
        due.is("BIT -1", x.forgiven(1, -1), -1);
        x.set(4, 64);
        due.is("the same CODE", x.forgiven(100000, 3), 1);
        due.is("the same CODE", x.forgiven(-100000, 0), 1);
        due.is("x 100001", x.forgiven(100001, 3), -1);
        due.is("x -100001", x.forgiven(-100001, 0), -1);
    }

    /** BIT 1 is learnt by BIT 0 alone, so worth the same: that fails where BIT 0 is 1 beside it, or 0 without it. */
    private static int slackOf(int below, int weight, int offset) {
        HalvingMender x = Due.of("b" + below + ";b" + weight + ";o" + offset + ";");
        x.learn(1, 1);
        due.is("WORTH", x.bit(1, 2), below);
        int slack = x.slack(1);
        due.is("tightest", x.tightest(1), slack);
        return slack;
    }

    private static void slack() {
        for (int offset : new int[] {0, 99, -99}) {
            due.is("1 and 1998 above is not", slackOf(1999, 6000, offset), 1998);
            due.is("2000 above is not", slackOf(2000, 6000, offset), 1999);
            due.is("2000 above is", slackOf(2001, 6000, offset), 2000);
            due.is("2001 above is: more is not asked", slackOf(2002, 6000, offset), 2000);
            due.is("1999 below is not", slackOf(2500, 4498, offset), 1998);
            due.is("2000 below is not", slackOf(2500, 4499, offset), 1999);
            due.is("2000 below is", slackOf(2500, 4500, offset), 2000);
            due.is("2001 below is: more is not asked", slackOf(2500, 4501, offset), 2000);
        }
        due.is("1 above is not", slackOf(1, 3, 0), 0);
        due.is("2 above is not", slackOf(2, 9, 0), 1);
        due.is("1 below is not", slackOf(5, 5, 0), 0);
        due.is("2 below is not", slackOf(5, 6, 0), 1);
        HalvingMender x = Due.of("b1;b3;");
        due.is("not even for 0", x.slack(1), -1);
        due.is("BIT 0, too", x.slack(0), -1);
        due.is("BIT 2", x.slack(2), -2);
        due.is("BIT -1", x.slack(-1), -2);
        due.is("no BITS", new HalvingMender().slack(0), -2);
    }

    private static void tightest() {
        HalvingMender x = Due.of("b1;b3;");
        x.learn(1, 1);
        due.is("but 0, that has NONE", x.tightest(0), 1);
        due.is("its SLACK", x.tightest(1), 0);
        x.forget();
        due.is("not even for 0", x.tightest(1), -1);
        // all are worth what BIT 0 is; 1000 above BIT 1 BIT 2 is 1, 1001 above BIT 2 BITS 1 and 0 are both 1 without it
        HalvingMender y = Due.of("b2001;b8000;b9000;");
        y.learn(1, 1);
        due.is("BIT 1", y.slack(1), 999);
        due.is("BIT 2", y.slack(2), 1000);
        due.is("the tightest", y.tightest(0), 1);
        due.is("its SLACK", y.tightest(1), 999);
        // BIT 2 is worth both below; 98 below it (at 10000) BIT 1 leaves 2000, too little for BIT 0
        y = Due.of("b2001;b8000;b9999:99;");
        due.is("as far as a WEIGHT goes", y.is(9), 2001 + 8000 + 10098);
        y.learn(1, 1);
        due.is("BIT 2", y.slack(2), 97);
        due.is("BIT 1", y.slack(1), 2000);
        due.is("the tightest is the highest", y.tightest(0), 2);
        due.is("its SLACK", y.tightest(1), 97);
        HalvingMender z = Due.of("b1;".repeat(12) + "g64;");
        due.is("all alike, 2000: the lowest but 0", z.tightest(0), 1);
        due.is("2000", z.tightest(1), 2000);
        z.set(4, 1);
        due.is("of ones the highest is FORGIVEN at 1 alone", z.slack(11), 0);
        for (int i = 0; i < 11; i++) {
            due.is("the others not at all", z.slack(i), -1);
        }
        due.is("the lowest but 0", z.tightest(0), 1);
        due.is("not even for 0", z.tightest(1), -1);
        due.is("what -1", z.tightest(-1), -2);
        due.is("what 2", z.tightest(2), -2);
    }

    // ---- a HISTOGRAM ----

    private static void spans() {
        HalvingMender x = Due.of("b1;b2;");
        int[][] taken = {{-100000, -100000, 1}, {100000, 100000, 1}, {-100000, 100000, 200000}, {-100000, 100000, MAX},
            {0, 0, MAX}, {99999, 100000, 1}, {0, 1999, 1}, {-100000, -98001, 1}, {98001, 100000, 1}, {0, 3999, 2},
            {-100000, 99999, 100}, {-100000, 100000, 101}};
        int[] xs = {1, 1, 2, 1, 1, 2, 2000, 2000, 2000, 2000, 2000, 1981};
        for (int n = 0; n < taken.length; n++) {
            int[] s = taken[n];
            String span = s[0] + " up to " + s[1] + " by " + s[2];
            int together = 0;
            for (int code = 0; code <= 3; code++) {
                together += x.often(s[0], s[1], s[2], code);
            }
            due.is("x from " + span, together, xs[n]);
            due.is("histogram from " + span, x.histogram(s[0], s[1], s[2], 0) > 0, true);
        }
        int[][] others = {{-100001, -100001, 1}, {-100001, -100000, 1}, {100001, 100001, 1}, {100000, 100001, 1},
            {1, 0, 1}, {0, 0, 0}, {0, 0, -1}, {0, 0, MIN}, {0, 2000, 1}, {-100000, -98000, 1}, {0, 4000, 2},
            {-100000, 100000, 100}, {MIN, MIN, 1}, {MAX, MAX, 1}, {MIN, MAX, 1}, {MIN, MAX, MAX}, {MAX, MIN, 1},
            {-100000, MAX, MAX}, {MIN, 100000, MAX}};
        for (int[] s : others) {
            String span = s[0] + " up to " + s[1] + " by " + s[2];
            due.is("histogram from " + span, x.histogram(s[0], s[1], s[2], 0), -1000000);
            due.is("often from " + span, x.often(s[0], s[1], s[2], 0), -1);
        }
        for (int what : new int[] {-1, 10, MIN, MAX}) {
            due.is("what " + what, x.histogram(0, 1, 1, what), -1000000);
        }
        for (int what = 0; what <= 9; what++) {
            due.is("what " + what, x.histogram(0, 1, 1, what) != -1000000, true);
        }
    }

    /** The last x counts if it is b, and not if a step more would be beyond b. */
    private static void howManyXs() {
        HalvingMender x = Due.of("b1;b2;b4;b8;");
        due.is("up to b", x.histogram(1, 13, 4, 8), 13);
        due.is("just not up to 13", x.histogram(1, 12, 4, 8), 9);
        due.is("from a", x.histogram(1, 13, 4, 7), 1);
        due.is("b itself", x.often(1, 13, 4, 13), 1);
        due.is("not b", x.often(1, 12, 4, 13), 0);
        due.is("a itself", x.often(5, 5, 7, 5), 1);
        due.is("no CODE below 0", x.often(-9, 9, 1, -1), 0);
        due.is("any number", x.often(-9, 9, 1, MIN), 0);
        due.is("any number", x.often(-9, 9, 1, MAX), 0);
    }

    private static void oneX() {
        HalvingMender x = Due.of("b1;b2;b4;b8;");
        // of 20: CODE 15
        int[] told = {1, 0, 0, 5, 20, 15, 1, 15, 15, -1};
        for (int what = 0; what < 10; what++) {
            due.is("one x: " + what, x.histogram(20, 20, 1, what), told[what]);
            due.is("one x by the greatest c: " + what, x.histogram(20, 100000, MAX, what), told[what]);
        }
    }

    private static void ties() {
        HalvingMender x = Due.of("b1;b2;b4;b8;");
        // CODES 0 0 0 1 .. 14 15 15 15: 0 and 15 three times, OFF BY 2 at -2 and 17
        due.is("MOST: of like ones the least", x.histogram(-2, 17, 1, 5), 0);
        due.is("how often", x.histogram(-2, 17, 1, 6), 3);
        due.is("one more of the greatest", x.histogram(-2, 18, 1, 5), 15);
        due.is("how often", x.histogram(-2, 18, 1, 6), 4);
        due.is("OFF BY: the first x", x.histogram(-2, 17, 1, 4), -2);
        due.is("OFF BY", x.histogram(-2, 17, 1, 3), 2);
        due.is("one farther", x.histogram(-2, 18, 1, 4), 18);
        due.is("OFF BY 0: the first x", x.histogram(3, 12, 1, 4), 3);
        due.is("like CODES are no FALLS", x.histogram(-9, 30, 1, 2), 0);
        // BIT 2 (WEIGHT 3) is worth 2: 2 is 2, 3 is 2: like; worth 1: a FALL
        HalvingMender y = Due.of("b1;b1;b2:1;");
        due.is("2, 2: none", y.histogram(2, 3, 1, 2), 0);
        HalvingMender z = Due.of("b1;b1;b1:2;");
        due.is("2, 1: one", z.histogram(2, 3, 1, 2), 1);
        due.is("the x ahead is one by c", z.histogram(1, 3, 2, 2), 0);
        due.is("none ahead of the first", z.histogram(3, 3, 1, 2), 0);
    }

    private static void missing() {
        HalvingMender x = Due.of("b1;b2;b4:-1;b8:-2;");
        // WEIGHTS 1, 2, 3, 6: 0 1 2 4 5 6 8 9: 3 and 7 are MISSING
        due.is("up to 2: none", x.histogram(0, 2, 1, 1), 0);
        due.is("the first: none", x.histogram(0, 2, 1, 9), -1);
        due.is("up to 3: one", x.histogram(0, 3, 1, 1), 1);
        due.is("the first", x.histogram(0, 3, 1, 9), 3);
        due.is("from 3 on: none below the least", x.histogram(3, 5, 1, 1), 0);
        due.is("from 3 on: none above the greatest", x.histogram(3, 5, 1, 9), -1);
        due.is("up to 6: two", x.histogram(0, 6, 1, 1), 2);
        due.is("the first", x.histogram(0, 6, 1, 9), 3);
        due.is("from 3 on, up to 6", x.histogram(3, 6, 1, 9), 7);
        due.is("one x: none", x.histogram(6, 6, 1, 1), 0);
    }

    private static void first() {
        HalvingMender x = Due.of("b1;b2;b4;b8;");
        due.is("x is a", x.first(5, 9, 5), 5);
        due.is("x is a, of more", x.first(5, 9, 1), 5);
        due.is("x is b", x.first(5, 9, 9), 9);
        due.is("x would be behind b", x.first(5, 9, 10), -1000000);
        due.is("one x", x.first(7, 7, 7), 7);
        due.is("one x, not", x.first(7, 7, 8), -1000000);
        due.is("any CODE", x.first(-100000, -100000, MIN), -100000);
        due.is("0 or more", x.first(-100000, -98001, 0), -100000);
        due.is("1 or more", x.first(-100000, -98001, 1), -1000000);
        due.is("no CODE", x.first(98001, 100000, MAX), -1000000);
        due.is("the greatest CODE", x.first(98001, 100000, 15), 98001);
        due.is("2000 x", x.first(-1984, 15, 15), 15);
        due.is("2001 x", x.first(-1985, 15, 15), -1000000);
        due.is("below", x.first(-100001, -100000, 0), -1000000);
        due.is("above", x.first(100000, 100001, 0), -1000000);
        due.is("b below a", x.first(1, 0, 0), -1000000);
    }

    // ---- sums, and the GAP ----

    private static void sums() {
        HalvingMender x = Due.of("b9999;b9999;b2;");
        due.is("20000 together", x.is(10), 20000);
        due.is("ways", x.ways(0), 1);
        due.is("ways", x.ways(20000), 1);
        due.is("ways", x.ways(9999), 2);
        due.is("ways to more than all", x.ways(20001), 0);
        due.is("ways below 0", x.ways(-1), 0);
        due.is("ways", x.ways(MIN), 0);
        due.is("ways", x.ways(MAX), 0);
        int[] told = {6, 2, 9999, 1};
        for (int what = 0; what < 4; what++) {
            due.is("sums(" + what + ")", x.sums(what), told[what]);
        }
        for (int what : new int[] {-1, 4, MIN, MAX}) {
            due.is("sums(" + what + ")", x.sums(what), -1);
        }
        HalvingMender y = Due.of("b9999;b9999;b3;");
        due.is("20001 together", y.is(10), 20001);
        due.is("ways", y.ways(0), -1);
        due.is("sums", y.sums(0), -1);
        y.off(2, -1);
        due.is("WEIGHTS are no WORTHS", y.ways(0), -1);
        y.stick(0, 0);
        y.learn(1, 1);
        // WORTHS 9999, 0, 0
        due.is("learnt: the empty set, and those of nothing", y.ways(0), 4);
        due.is("all", y.ways(9999), 4);
        due.is("two sums", y.sums(0), 2);
        due.is("of like ones the least", y.sums(2), 0);
        due.is("the least that is none", y.sums(3), 1);
        HalvingMender full = Due.of("b1;b2;b4;b8;b16;b32;b64;b128;b256;b512;b1024;b2048;");
        due.is("4096 sums", full.sums(0), 4096);
        due.is("once each", full.sums(1), 1);
        due.is("the least", full.sums(2), 0);
        due.is("none is left out", full.sums(3), -1);
        due.is("all BITS", full.ways(4095), 1);
        due.is("more than all", full.ways(4096), 0);
        HalvingMender z = Due.of("b1;b1;");
        due.is("0, 1, 2", z.sums(0), 3);
        due.is("none is left out", z.sums(3), -1);
        due.is("the last below all", Due.of("b2;b2;b1;b1;b9;").sums(3), 7);
        due.is("1 alone is left out", Due.of("b2;b2;").sums(3), 1);
    }

    private static void gap() {
        HalvingMender x = Due.of("b1;b2;b4;b8;");
        due.is("1 above: none", x.gap(0), 0);
        due.is("none", x.gap(1), -1);
        x.off(3, 1);
        due.is("2 above: by 1", x.gap(0), 1);
        due.is("BIT 3", x.gap(1), 3);
        x.off(3, -7);
        x.off(1, 1);
        due.is("BIT 1: by 1", x.gap(1), 1);
        x.off(2, 2);
        due.is("BIT 2 (6) above 4 and 1, too: of like ones the lowest", x.gap(1), 1);
        x.off(2, 3);
        due.is("by 2: BIT 2", x.gap(1), 2);
        due.is("by 2", x.gap(0), 2);
        HalvingMender y = Due.of("b1;b1;b1;");
        due.is("below: none", y.gap(0), 0);
        due.is("none", y.gap(1), -1);
        y.off(0, 1);
        due.is("BIT 0 above 0 and 1", y.gap(0), 1);
        due.is("BIT 0", y.gap(1), 0);
        HalvingMender full = Due.of("b1;b1;b1;b1;b1;b1;b1;b1;b1;b1;b1;b9999:99;");
        due.is("the last of twelve", full.gap(1), 11);
        due.is("by", full.gap(0), 10098 - 11 - 1);
        Due.text(full, "b1;b1;b1;b1;b1;b1;b1;b1;b1;b1;b1;");
        due.is("one that is no BIT any more", full.gap(1), -1);
        HalvingMender z = Due.of("b9999:99;b9999;");
        due.is("the widest", z.gap(0), 10097);
        due.is("what -1", z.gap(-1), -2);
        due.is("what 2", z.gap(2), -2);
    }
}
