/** Promises 19 to 24, 39 and 40: code, forgiven, slack, histogram, often, first, tightest, gap. */
public final class PaperTest {
    private static final Due due = new Due("PaperTest");

    public static void main(String[] args) {
        code();
        forgiven();
        slack();
        slackFar();
        tightest();
        histogram();
        missing();
        histogramEdges();
        often();
        first();
        gap();
        due.end();
    }

    private static void code() {
        HalvingMender x = Due.of("b1;b2;b4;d9;r1;n9;o1;g2;");
        // ON PAPER neither BAND, RULE nor NOISE: 5 and 1 is 6; (12 + 2) / 4
        due.is("code", x.code(5), 3);
        due.is("nothing is drawn", x.is(6), 1);
        due.is("no CONVERSION was", x.converted(0), -1000000);
        x.stick(2, 0);
        due.is("as it is, STUCK", x.code(5), 2);
        due.is("far", x.code(100000), 2);
        due.is("far", x.code(-100000), 0);
        due.is("too far", x.code(100001), -1000000);
        due.is("too far", x.code(-100001), -1000000);
    }

    private static void forgiven() {
        HalvingMender x = Due.of("b1;b2;b3;b4;");
        // 4: 1000 or 0101; 5: 1001 or 0110 ; 7: 1010, or 0111 is but 6
        due.is("4 without BIT 3", x.forgiven(4, 3), 1);
        due.is("5 without BIT 3", x.forgiven(5, 3), 1);
        due.is("7 without BIT 3", x.forgiven(7, 3), 0);
        due.is("3 with BIT 3", x.forgiven(3, 3), 0);
        // 3: 0100; without BIT 2: 0011
        due.is("3 without BIT 2", x.forgiven(3, 2), 1);
        due.is("0 with BIT 0", x.forgiven(0, 0), 0);
        x.set(4, 2);
        // by STEP 2: 6 is 3, 7 is 4; 3 is 2 and 4 is 2; 1 is 1
        due.is("3 with BIT 3", x.forgiven(3, 3), 1);
        due.is("7 without BIT 3", x.forgiven(7, 3), 0);
        x.set(4, 1);
        x.stick(3, 1);
        due.is("a STUCK one is turned round, too", x.forgiven(4, 3), 1);
        due.is("a STUCK one is turned round, too", x.forgiven(7, 3), 0);
        due.is("no BIT", x.forgiven(1, 4), -1);
        due.is("no BIT", x.forgiven(1, -1), -1);
        due.is("too far", x.forgiven(100001, 1), -1);
        due.is("too far", x.forgiven(-100001, 1), -1);
        due.is("far", x.forgiven(100000, 1), 0);
        due.is("no BITS", new HalvingMender().forgiven(0, 0), -1);
    }

    private static void slack() {
        HalvingMender x = Due.of("b1;b2;b3;b4;");
        // BIT 3 (4): 4 is FORGIVEN, 3 isn't; BIT 2 (3): 3 is, 2 isn't; BIT 1 (2): 2 isn't (1 below it)
        due.is("BIT 3", x.slack(3), 0);
        due.is("BIT 2", x.slack(2), 0);
        due.is("BIT 1", x.slack(1), -1);
        due.is("BIT 0", x.slack(0), -1);
        due.is("no BIT", x.slack(4), -2);
        due.is("no BIT", x.slack(-1), -2);
        due.is("no BITS", new HalvingMender().slack(0), -2);
        // 8 by 4, 2, 1, then 8 again below it: whatever is FORGIVEN from 7 less ..
        HalvingMender y = Due.of("b1;b2;b4;b8;b8;");
        // BIT 4: at 8 either one of 8; up to 15 it is so; 16 and on, not; below 8: 7 with it is 8
        due.is("BIT 4", y.slack(4), 0);
        y.set(0, 3);
        due.is("the middle moves by OFFSET", y.slack(4), 0);
        // BIT 3 of WEIGHT 9 and WORTH 8 is like BIT 4 of 8 but at 8 itself: 7 then, and 8
        y.off(3, 1);
        due.is("not even for 0", y.slack(4), -1);
    }

    private static void slackFar() {
        // all CODES are 0: SUM is 15 at most by STEP 64
        HalvingMender x = Due.of("b1;b2;b4;b8;g64;");
        due.is("all is FORGIVEN", x.slack(3), 2000);
        // BIT 3 (2000) turned round at 1999 and below leaves BIT 2 without what it had
        HalvingMender y = Due.of("b1;b1;b2000;b2000;g64;");
        due.is("2000 by 2000", y.slack(3), 0);
        HalvingMender z = Due.of("b1;b9999;b9999;b2:-1;g64;");
        due.is("its own CODE is no other", z.slack(3), 2000);
        // at 50 BIT 0 (50) has only 49 left behind BIT 1, and 50 without it
        HalvingMender w = Due.of("b50;b1:0;g64;");
        due.is("up to 50", w.slack(1), 48);
        w.set(0, 7);
        due.is("by OFFSET the same", w.slack(1), 48);
        // from its WEIGHT on BIT 1 counts 2015: with BIT 0 that is half a STEP more, which the CODE tells
        HalvingMender last = Due.of("b1;b2015:-15;g64;");
        due.is("1 and 1999 is the first that is not FORGIVEN", last.slack(0), 1998);
        last.off(1, -14);
        due.is("1 and 2000 is", last.slack(0), 1999);
        last.off(1, -13);
        due.is("1 and 2001 is", last.slack(0), 2000);
    }

    private static void tightest() {
        HalvingMender x = Due.of("b1;b2;b3;b4;");
        due.is("BIT 1", x.tightest(0), 1);
        due.is("its SLACK", x.tightest(1), -1);
        HalvingMender y = Due.of("b1;b1;b2;b3;b5;");
        int[] slacks = new int[5];
        int least = 9999;
        for (int i = 1; i < 5; i++) {
            slacks[i] = y.slack(i);
            least = Math.min(least, slacks[i]);
        }
        due.is("SLACK", y.tightest(1), least);
        due.is("BIT", slacks[y.tightest(0)], least);
        HalvingMender z = Due.of("b50;b1;b2;b100;g64;");
        // BIT 3 alone is tight: by 49 at least the others are not
        due.is("the one that is tight", z.tightest(0), 3);
        due.is("others", x.tightest(2), -2);
        due.is("others", x.tightest(-1), -2);
        due.is("no BITS", new HalvingMender().tightest(0), -2);
        HalvingMender same = Due.of("b1;b2;b4;b8;g64;");
        due.is("of like ones the lowest", same.tightest(0), 1);
        due.is("of 2000", same.tightest(1), 2000);
    }

    private static void all(HalvingMender x, String what, int a, int b, int c, int... told) {
        for (int k = 0; k < told.length; k++) {
            due.is(what + ": histogram(" + a + ", " + b + ", " + c + ", " + k + ")", x.histogram(a, b, c, k), told[k]);
        }
    }

    private static void histogram() {
        HalvingMender x = Due.of("b1;b2;b4;b8;");
        all(x, "well", 0, 15, 1, 16, 0, 0, 0, 0, 0, 1, 0, 15, -1);
        all(x, "by 4", 1, 15, 4, 4, 9, 0, 0, 1, 1, 1, 1, 13, 2);
        all(x, "one", 7, 7, 1, 1, 0, 0, 0, 7, 7, 1, 7, 7, -1);
        // beyond: 16, 17, 18 are 15: OFF BY 3 at 18; 15 comes 4 times
        all(x, "beyond", 10, 18, 1, 6, 0, 0, 3, 18, 15, 4, 10, 15, -1);
        // both ends OFF BY 3: the first x
        all(x, "both ends", -3, 18, 1, 16, 0, 0, 3, -3, 0, 4, 0, 15, -1);
        x.off(3, 1);
        // WEIGHT 9, WORTH 8: 8 is 7, 16 is 15: OFF BY 1 at 8; 7 comes twice
        all(x, "too heavy", 0, 16, 1, 16, 0, 0, 1, 8, 7, 2, 0, 15, -1);
        x.off(3, -2);
        // WEIGHT 6, WORTH 8: 6 is 8, 7 is 9, .. 13 is 15; 6 and 7 are MISSING
        all(x, "too light", 0, 13, 1, 14, 2, 0, 2, 6, 0, 1, 0, 15, 6);
        HalvingMender y = Due.of("b1;b2;b4;b8:3;");
        // WEIGHT 11, WORTH 8: 7, 8, 9, 10 are 7; 11 is 8: OFF BY 3
        all(y, "a plateau", 0, 15, 1, 13, 0, 0, 3, 10, 7, 4, 0, 12, -1);
        HalvingMender z = Due.of("b1;b2;b4:2;b8;");
        // WEIGHTS 1, 2, 6, 8: 3, 4, 5 are 3; 6 is 4, 7 is 5, 8 is 8; 11, 12, 13 are 11
        all(z, "MISSING two", 0, 17, 1, 14, 2, 0, 2, 5, 3, 3, 0, 15, 6);
    }

    private static void missing() {
        // WORTHS of 1, 2, 9, 40 by WEIGHTS 1, 2, 9, 5: 5 is 40, 14 is 40 and 9
        HalvingMender x = Due.of("b1;b2;b9;b40:-35;");
        due.is("unlike", x.histogram(0, 5, 1, 0), 5);
        due.is("MISSING", x.histogram(0, 5, 1, 1), 36);
        due.is("the first", x.histogram(0, 5, 1, 9), 4);
        due.is("the greatest", x.histogram(0, 5, 1, 8), 40);
        due.is("OFF BY", x.histogram(0, 5, 1, 3), 35);
        HalvingMender y = Due.of("b1;b9:-7;b3;");
        // WEIGHTS 1, 2, 3: 2 is 9, 3 is 3: a FALL; 5 is 12, 6 is 13; 4 is 4
        due.is("FALLS", y.histogram(0, 6, 1, 2), 1);
        due.is("FALLS by 2: 0, 9, 4, 13", y.histogram(0, 6, 2, 2), 1);
        due.is("no FALL at the first", y.histogram(3, 6, 1, 2), 0);
        due.is("a FALL at the second", y.histogram(2, 3, 1, 2), 1);
        HalvingMender by = Due.of("b1;b2;b4;b8;g4;");
        // 0 1 | 2 .. 5 | 6 .. 9 | 10 .. 13 | 14 15
        all(by, "by STEP", 0, 15, 1, 5, 0, 0, 2, 2, 1, 4, 0, 4, -1);
    }

    private static void histogramEdges() {
        HalvingMender x = Due.of("b1;b2;");
        due.is("2000 x", x.histogram(0, 1999, 1, 6), 1997);
        due.is("2001 x", x.histogram(0, 2000, 1, 6), -1000000);
        due.is("2000 x by 3", x.histogram(1, 5999, 3, 6), 1999);
        due.is("2001 x by 3", x.histogram(0, 6000, 3, 6), -1000000);
        due.is("the least", x.histogram(-100000, -100000, 1, 3), 100000);
        due.is("below the least", x.histogram(-100001, -100000, 1, 3), -1000000);
        due.is("the greatest", x.histogram(100000, 100000, 1, 4), 100000);
        due.is("above the greatest", x.histogram(100000, 100001, 1, 4), -1000000);
        due.is("b below a", x.histogram(1, 0, 1, 0), -1000000);
        due.is("c 0", x.histogram(0, 1, 0, 0), -1000000);
        due.is("c below 0", x.histogram(0, 1, -1, 0), -1000000);
        due.is("others", x.histogram(0, 1, 1, 10), -1000000);
        due.is("others", x.histogram(0, 1, 1, -1), -1000000);
        due.is("wide", x.histogram(-100000, 100000, 101, 0), 2);
        due.is("wide ints", x.histogram(Integer.MIN_VALUE, Integer.MAX_VALUE, 1, 0), -1000000);
        due.is("no BITS", new HalvingMender().histogram(0, 1, 1, 0), -1000000);
    }

    private static void often() {
        HalvingMender x = Due.of("b1;b2;");
        due.is("0 up to 0", x.often(-5, 9, 1, 0), 6);
        due.is("1 once", x.often(-5, 9, 1, 1), 1);
        due.is("3 from 3 up", x.often(-5, 9, 1, 3), 7);
        due.is("by 2", x.often(-5, 9, 2, 3), 4);
        due.is("never", x.often(-5, 9, 1, 4), 0);
        due.is("never", x.often(-5, 9, 1, -1), 0);
        due.is("2001 x", x.often(0, 2000, 1, 3), -1);
        due.is("c 0", x.often(0, 1, 0, 3), -1);
        due.is("b below a", x.often(2, 1, 1, 3), -1);
        due.is("no BITS", new HalvingMender().often(0, 1, 1, 0), -1);
    }

    private static void first() {
        HalvingMender x = Due.of("b1;b9:-7;b3;");
        // CODES of 0 .. 6: 0, 1, 9, 3, 4, 12, 13
        due.is("3 or more", x.first(0, 6, 3), 2);
        due.is("3 or more, from 3", x.first(3, 6, 3), 3);
        due.is("10 or more", x.first(0, 6, 10), 5);
        due.is("14", x.first(0, 6, 14), -1000000);
        due.is("13 up to 5", x.first(0, 5, 13), -1000000);
        due.is("13 up to 6", x.first(0, 6, 13), 6);
        due.is("any", x.first(-9, 6, Integer.MIN_VALUE), -9);
        due.is("2000 x", x.first(0, 1999, 1), 1);
        due.is("2001 x", x.first(0, 2000, 1), -1000000);
        due.is("b below a", x.first(1, 0, 0), -1000000);
        due.is("too far", x.first(-100001, -100000, 0), -1000000);
        due.is("too far", x.first(100000, 100001, 0), -1000000);
        due.is("no BITS", new HalvingMender().first(0, 1, 0), -1000000);
    }

    private static void gap() {
        HalvingMender x = Due.of("b1;b2;b4;b8;");
        due.is("none", x.gap(0), 0);
        due.is("none", x.gap(1), -1);
        x.off(1, 1);
        x.off(3, 2);
        // WEIGHTS 1, 3, 4, 10: 3 above 2 by 1, 10 above 9 by 1
        due.is("by 1", x.gap(0), 1);
        due.is("of like ones the lowest", x.gap(1), 1);
        x.off(3, 5);
        due.is("by 4", x.gap(0), 4);
        due.is("BIT 3", x.gap(1), 3);
        x.off(0, 6);
        // 7 above 1 by 6
        due.is("BIT 0's", x.gap(0), 6);
        due.is("BIT 0", x.gap(1), 0);
        due.is("others", x.gap(2), -2);
        due.is("others", x.gap(-1), -2);
        due.is("no BITS", new HalvingMender().gap(0), -2);
    }
}
