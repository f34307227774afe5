/** Terms, a CONVERSION and its DRAWS, and promises 6 to 16, 30 and 36: each limit from both sides. */
public final class ConversionEdgesTest {
    private static final Due due = new Due("ConversionEdgesTest");

    public static void main(String[] args) {
        drawsWrap();
        drawsOfNoise();
        drawsOfRule();
        lateOrNot();
        oneFromNothingOn();
        stuckOnes();
        codeIsCutDown();
        farAway();
        nothingYet();
        howManyLate();
        latestAlone();
        written();
        mean();
        lastValuesTaken();
        due.end();
    }

    // ---- the DRAWS, once more: by longs, cut to 32 bits ----

    private static long draws;

    private static int draw(int m) {
        draws = draws * 1103515245L + 12345L & 0xFFFFFFFFL;
        return (int) (draws / 65536 % m);
    }

    private static final int[] SEEDS = {0, 1, -1, 2, -2, 12345, 65535, 65536, -65536, 1 << 30, Integer.MAX_VALUE,
        Integer.MIN_VALUE, Integer.MAX_VALUE - 1, Integer.MIN_VALUE + 1, 1103515245};

    private static void drawsWrap() {
        HalvingMender x = Due.of("b1;b2;");
        due.is("X at first", x.is(6), 1);
        x.set(3, 1);
        x.convert(0);
        // two DRAWS: 1103527590, then its product and 12345, wrapped
        draws = 1;
        draw(3);
        due.is("the first X", draws, 1103527590);
        draw(3);
        due.is("X wraps", x.is(6), (int) draws);
        boolean below = false;
        for (int seed : SEEDS) {
            due.is("seed tells what it was", x.seed(seed), (int) draws);
            due.is("X is any number", x.is(6), seed);
            draws = seed & 0xFFFFFFFFL;
            x.convert(0);
            draw(3);
            draw(3);
            due.is("X behind " + seed, x.is(6), (int) draws);
            below |= (int) draws < 0;
        }
        due.is("some X are below 0", below, true);
    }

    /** A DRAW of NOISE * 2 + 1, less NOISE: from -NOISE to NOISE, both too; of an X below 0 none is below. */
    private static void drawsOfNoise() {
        for (int noise : new int[] {1, 2, 19, 20}) {
            int least = 99;
            int most = -99;
            for (int seed = -600; seed < 600; seed++) {
                HalvingMender x = Due.of("b1;b500;n" + noise + ";");
                x.seed(seed * 7654321);
                draws = seed * 7654321 & 0xFFFFFFFFL;
                x.convert(0);
                int drawn = draw(noise * 2 + 1) - noise;
                due.is("d by NOISE " + noise + " from " + seed, x.decision(1, 2), drawn - 500);
                least = Math.min(least, x.decision(1, 2) + 500);
                most = Math.max(most, x.decision(1, 2) + 500);
            }
            due.is("the least of NOISE " + noise, least, -noise);
            due.is("the most of NOISE " + noise, most, noise);
        }
        HalvingMender x = Due.of("b1;b500;n0;r2;");
        x.seed(-7);
        x.convert(9);
        due.is("by NOISE 0, BAND 0 nothing is drawn", x.is(6), -7);
        x.set(1, 50);
        x.convert(9);
        due.is("BIT 1 is far", x.decision(1, 1), 0);
        due.is("BIT 0 is LATE", x.decision(0, 1), 1);
        draws = -7 & 0xFFFFFFFFL;
        draw(2);
        due.is("one is drawn for the one that is LATE", x.is(6), (int) draws);
    }

    private static void drawsOfRule() {
        for (int seed : SEEDS) {
            HalvingMender x = Due.of("b1;b500;d1;r2;");
            x.seed(seed);
            draws = seed & 0xFFFFFFFFL;
            x.convert(500);
            int one = draw(2);
            due.is("a DRAW of 2", x.decision(1, 0), one);
            due.is("HELD by it", x.decision(1, 3), one * 500);
            // BIT 0 has d -1, or 499: BAND 1 holds neither
            due.is("nothing more is drawn", x.is(6), (int) draws);
        }
    }

    // ---- DECISIONS ----

    private static void lateOrNot() {
        for (int band : new int[] {0, 1, 2, 3, 49, 50}) {
            for (int rule = 0; rule <= 3; rule++) {
                for (int d = -52; d <= 52; d++) {
                    HalvingMender x = Due.of("b1;b1000;d" + band + ";r" + rule + ";");
                    boolean late = -band < d && d < band;
                    draws = 1;
                    int one = late && rule == 2 ? draw(2) : late && rule < 2 ? 1 - rule : d >= 0 ? 1 : 0;
                    x.convert(1000 + d);
                    String what = "BAND " + band + ", RULE " + rule + ", d " + d + ": ";
                    due.is(what + "d", x.decision(1, 2), d);
                    due.is(what + "LATE", x.decision(1, 1), late ? 1 : 0);
                    due.is(what + "DECISION", x.decision(1, 0), one);
                    due.is(what + "HELD", x.decision(1, 3), one * 1000);
                }
            }
        }
    }

    private static void oneFromNothingOn() {
        HalvingMender x = Due.of("b3;b7:2;");
        x.convert(9);
        due.is("d 0", x.decision(1, 2), 0);
        due.is("is 1", x.decision(1, 0), 1);
        x.convert(8);
        due.is("d -1", x.decision(1, 2), -1);
        due.is("is 0", x.decision(1, 0), 0);
        due.is("all BITS 0", x.convert(2), 0);
        due.is("HELD 0", x.converted(1), 0);
        due.is("none is 1", x.converted(4), 0);
        due.is("all BITS 1", x.convert(12), 10);
        due.is("HELD", x.converted(1), 12);
        due.is("LEFT 0", x.converted(2), 0);
        due.is("all are 1", x.converted(4), 2);
        x.convert(0);
        due.is("LEFT 0 of nothing", x.converted(2), 0);
    }

    private static void stuckOnes() {
        for (int at = 0; at <= 1; at++) {
            HalvingMender x = Due.of("b1;b1000;d50;r2;");
            x.stick(0, at);
            x.stick(1, at);
            for (int d = -51; d <= 51; d++) {
                x.convert(1000 + d);
                due.is("STUCK, whatever", x.decision(1, 0), at);
                due.is("STUCK is not LATE", x.decision(1, 1), 0);
                due.is("d is reckoned", x.decision(1, 2), d);
            }
            due.is("no RULE's DRAW", x.is(6), 1);
            x.set(3, 20);
            x.convert(1000);
            draws = 1;
            due.is("NOISE is drawn all the same", x.decision(1, 2), draw(41) - 20);
            int held = at * 1000;
            due.is("and for the second", x.decision(0, 2), 1000 + draw(41) - 20 - held - 1);
            due.is("X", x.is(6), (int) draws);
        }
    }

    /** CODE: (SUM * 2 + STEP) / (STEP * 2), cut: SUM by STEP to the nearest, halves up. */
    private static void codeIsCutDown() {
        for (int step : new int[] {1, 2, 3, 63, 64}) {
            HalvingMender x = Due.of("b1;b2;b4;b8;b16;b32;b64;b128;g" + step + ";");
            for (int sum = 0; sum <= 200; sum++) {
                int code = sum / step;
                // half a STEP more is the next one
                code += 2 * (sum % step) >= step ? 1 : 0;
                due.is("CODE of " + sum + " by " + step, x.convert(sum), code);
                due.is("SUM", x.converted(0), sum);
            }
        }
        HalvingMender x = Due.of("b1;b2;b4;b8;b16;b32;g64;");
        due.is("31 by 64", x.code(31), 0);
        due.is("32 by 64", x.code(32), 1);
        due.is("0 by 64", x.code(0), 0);
        due.is("63 by 64", x.code(63), 1);
    }

    private static void farAway() {
        HalvingMender x = Due.of("b1;b9999:99;o99;");
        due.is("the greatest x", x.convert(100000), 10000);
        due.is("LEFT", x.converted(2), 100000 + 99 - 10098 - 1);
        x.set(0, -99);
        due.is("the least x", x.convert(-100000), 0);
        due.is("LEFT", x.converted(2), -100099);
        due.is("d", x.decision(1, 2), -100000 - 99 - 10098);
        due.is("code", x.code(100000), 10000);
        due.is("code", x.code(-100000), 0);
        due.is("forgiven", x.forgiven(100000, 0), 0);
        due.is("forgiven", x.forgiven(-100000, 0), 0);
        due.is("mean", x.mean(100000, 1), 10000);
        due.is("mean", x.mean(-100000, 1), 0);
        for (int far : new int[] {100001, -100001, Integer.MAX_VALUE, Integer.MIN_VALUE}) {
            due.is("too far", x.convert(far), -1000000);
            due.is("the latest that was one", x.converted(2), -100099);
            due.is("too far", x.code(far), -1000000);
            due.is("too far", x.forgiven(far, 0), -1);
            due.is("too far", x.mean(far, 1), -1000000);
        }
    }

    // ---- what a CONVERSION told ----

    private static void nothingYet() {
        HalvingMender x = Due.of("b1;b2;");
        for (int pass = 0; pass < 4; pass++) {
            for (int what = -1; what <= 6; what++) {
                due.is("no CONVERSION", x.decision(0, what), -1000000);
                due.is("no CONVERSION", x.converted(what), -1000000);
            }
            due.is("no CONVERSION", x.write(), -1);
            due.is("nothing was written", x.octet(0), -1);
            // neither a refused one, nor those of others, nor text(), draw() and back() make one
            x.convert(100001);
            x.code(1);
            x.mean(1, 2);
            x.learn(1, 1);
            if (pass == 0) {
                x.convert(1);
                x.draw(2, 100);
            } else if (pass == 1) {
                x.convert(1);
                Due.text(x, "b1;b2;");
            } else {
                x.keep(0);
                x.convert(1);
                x.back(0);
            }
        }
    }

    /** From none to all; each CONVERSION counts its own. */
    private static void howManyLate() {
        HalvingMender x = Due.of("b1;b5;b300;d10;");
        int[] xs = {300, 305, 309, 310, 314, 315, 316, 320, 291, 290, -4, -5, -8, -9, 300, 320};
        int[] lates = {3, 3, 3, 2, 2, 1, 0, 0, 1, 0, 2, 1, 1, 0, 3, 0};
        for (int n = 0; n < xs.length; n++) {
            x.convert(xs[n]);
            due.is("LATE of " + xs[n], x.converted(3), lates[n]);
            due.is("LATE by each BIT", x.decision(0, 1) + x.decision(1, 1) + x.decision(2, 1), lates[n]);
        }
        x.set(1, 0);
        x.convert(300);
        due.is("BAND 0: none", x.converted(3), 0);
    }

    private static void latestAlone() {
        HalvingMender x = Due.of("b1;b2;b4;");
        x.convert(7);
        x.convert(2);
        due.is("the latest", x.converted(0), 2);
        due.is("the highest BIT", x.decision(2, 0), 0);
        due.is("no BIT above", x.decision(3, 0), -1000000);
        due.is("no BIT below", x.decision(-1, 0), -1000000);
        due.is("the last of what", x.decision(0, 3), 2);
        due.is("none behind", x.decision(0, 4), -1000000);
        due.is("none ahead", x.decision(0, -1), -1000000);
        due.is("the last of what", x.converted(5), 2);
        due.is("none behind", x.converted(6), -1000000);
        due.is("none ahead", x.converted(-1), -1000000);
        Due.text(x, "b1;");
        due.is("a FAULT leaves it", x.converted(0), 2);
        x.draw(1, 0);
        due.is("a refused draw() leaves it", x.converted(0), 2);
        x.back(0);
        due.is("a refused back() leaves it", x.converted(0), 2);
        x.keep(0);
        x.off(2, 1);
        x.set(4, 64);
        x.forget();
        x.stick(1, 0);
        due.is("it is told as it was", x.decision(1, 3), 2);
        due.is("it is told as it was", x.converted(5), 2);
        due.is("and written", x.write(), 3);
        due.is("as it was", x.octet(1), '1');
        // the latest of twelve BITS: all of them are told
        HalvingMender y = Due.of("b1;".repeat(12));
        y.convert(11);
        due.is("BIT 11", y.decision(11, 3), 1);
        due.is("BIT 0", y.decision(0, 2), -1);
        due.is("BIT 12", y.decision(12, 0), -1000000);
        due.is("how many are 1", y.converted(4), 11);
    }

    private static void written() {
        HalvingMender x = Due.of("b1;".repeat(12));
        due.is("nothing to write", x.write(), -1);
        x.convert(1);
        due.is("converted, not written", x.octet(0), -1);
        due.is("twelve", x.write(), 12);
        due.is("the highest first", x.octet(0), '1');
        due.is("the lowest last", x.octet(11), '0');
        due.is("none behind", x.octet(12), -1);
        due.is("none ahead", x.octet(-1), -1);
        x.set(1, 50);
        x.set(2, 0);
        x.convert(-1);
        due.is("still what was written", x.octet(0), '1');
        x.write();
        // -2 and further down, all LATE ones
        due.is("LATE ones", x.octet(0), '+');
        due.is("LATE ones", x.octet(11), '+');
        x.set(2, 1);
        x.convert(-1);
        x.write();
        due.is("LATE zeros", x.octet(0), '-');
        due.is("LATE zeros", x.octet(11), '-');
        Due.text(x, "b1;b2;");
        due.is("without one", x.write(), -1);
        due.is("what was written latest", x.octet(11), '-');
        x.convert(3);
        due.is("two", x.write(), 2);
        due.is("the second", x.octet(1), '1');
        due.is("no third", x.octet(2), -1);
        x.octet(Integer.MAX_VALUE);
        due.is("far", x.octet(Integer.MIN_VALUE), -1);
    }

    private static void mean() {
        HalvingMender x = Due.of("b1;b500;d1;r2;");
        for (int r : new int[] {1, 2, 3, 4, 99, 100}) {
            for (int seed : SEEDS) {
                x.seed(seed);
                draws = seed & 0xFFFFFFFFL;
                int together = 0;
                for (int n = 0; n < r; n++) {
                    together += draw(2);
                }
                // of 1: BIT 1 is far, BIT 0 has d 0, so it is drawn
                int cut = together / r;
                due.is("mean of " + r, x.mean(1, r), 2 * (together - cut * r) >= r ? cut + 1 : cut);
                due.is("X", x.is(6), (int) draws);
            }
        }
        due.is("r 0", x.mean(1, 0), -1000000);
        due.is("r 101", x.mean(1, 101), -1000000);
        due.is("and nothing was drawn", x.is(6), (int) draws);
        due.is("no CONVERSION was told", x.converted(0), -1000000);
    }

    // ---- what is set ----

    private static void lastValuesTaken() {
        HalvingMender x = Due.of("b1;b100;b9999;");
        due.is("OFF 99", x.off(0, 99), true);
        due.is("WEIGHT", x.bit(0, 4), 100);
        due.is("OFF 100", x.off(0, 100), false);
        due.is("OFF 0", x.off(0, 0), true);
        due.is("WEIGHT 0", x.off(0, -1), false);
        due.is("OFF -99, WEIGHT 1", x.off(1, -99), true);
        due.is("OFF -100", x.off(2, -100), false);
        due.is("OFF -99", x.off(2, -99), true);
        due.is("BIT 3", x.off(3, 0), false);
        due.is("BIT -1", x.off(-1, 0), false);
        due.is("WEIGHTS", x.is(9), 1 + 1 + 9900);
        setEach(false);
        setEach(true);
        for (int v = -2; v <= 2; v++) {
            int was = x.bit(2, 3);
            due.is("stick at " + v, x.stick(2, v), v >= -1 && v <= 1);
            due.is("STUCK", x.bit(2, 3), v >= -1 && v <= 1 ? v : was);
        }
        due.is("stick BIT 3", x.stick(3, 0), false);
        HalvingMender z = new HalvingMender();
        for (int v : new int[] {-1, 0, 1, 98, 99, 100, Integer.MIN_VALUE, Integer.MAX_VALUE}) {
            int was = z.is(11);
            due.is("heat " + v, z.heat(v), v >= 0 && v <= 99);
            due.is("HEAT", z.is(11), v >= 0 && v <= 99 ? v : was);
        }
        for (int what = -2; what <= 15; what++) {
            due.is("is " + what + " is told", z.is(what) != -100000, what >= 0 && what <= 12);
            due.is("bit " + what + " is told", x.bit(0, what) != -100000, what >= 0 && what <= 5);
        }
        for (int i = -2; i <= 5; i++) {
            due.is("BIT " + i + " is told", x.bit(i, 0) != -100000, i >= 0 && i <= 2);
        }
    }

    /** With BITS and without. */
    private static void setEach(boolean bits) {
        int[] low = {-99, 0, 0, 0, 1};
        int[] high = {99, 50, 3, 20, 64};
        for (int what = 0; what < 5; what++) {
            for (int v = low[what] - 2; v <= high[what] + 2; v++) {
                HalvingMender x = bits ? Due.of("b1;b2;o7;d7;r1;n7;g7;") : new HalvingMender();
                boolean taken = v >= low[what] && v <= high[what];
                int was = x.is(what + 1);
                due.is("set(" + what + ", " + v + ")", x.set(what, v), taken);
                due.is("it is", x.is(what + 1), taken ? v : was);
            }
        }
    }
}
