/** Terms, a CROWD and DRAWN WEIGHTS, and promises 25 to 28 and 38: each limit from both sides. */
public final class CrowdEdgesTest {
    private static final Due due = new Due("CrowdEdgesTest");
    private static final int MIN = Integer.MIN_VALUE;
    private static final int MAX = Integer.MAX_VALUE;

    public static void main(String[] args) {
        drawnWeights();
        drawnOthers();
        fewest();
        loosest();
        draw();
        crowdByM();
        crowdByP();
        crowdByK();
        crowdByWeight();
        crowdFromTo();
        crowdIsAside();
        crowdOthers();
        due.end();
    }

    // ---- DRAWN WEIGHTS, once more: by hundredths that are counted ----

    private static int[] weights(int n, int a) {
        int[] sizes = new int[n];
        int below = 0;
        for (int i = 0; i < n; i++) {
            sizes[i] = 1;
            for (int hundredths = a * below; hundredths >= 100; hundredths -= 100) {
                sizes[i]++;
            }
            below += sizes[i];
        }
        return sizes;
    }

    private static int reach(int n, int a) {
        int together = 0;
        for (int size : weights(n, a)) {
            together += size;
        }
        return together;
    }

    private static void drawnWeights() {
        for (int n = 2; n <= 12; n++) {
            HalvingMender x = new HalvingMender();
            for (int a = 0; a <= 100; a++) {
                int i = (n + a) % n;
                due.is("drawn(" + n + ", " + a + ", " + i + ", 0)", x.drawn(n, a, i, 0), weights(n, a)[i]);
                due.is("REACH", x.drawn(n, a, a % 2 == 0 ? MIN : MAX, 1), reach(n, a));
            }
        }
        HalvingMender x = new HalvingMender();
        due.is("SIZE of BIT 0", x.drawn(2, 100, 0, 0), 1);
        due.is("99 hundredths of 1 are cut", x.drawn(2, 99, 1, 0), 1);
        due.is("100 hundredths of 1", x.drawn(2, 100, 1, 0), 2);
        due.is("49 hundredths of 2", x.drawn(3, 49, 2, 0), 1);
        due.is("50 hundredths of 2", x.drawn(3, 50, 2, 0), 2);
        due.is("all of those below and 1", x.drawn(12, 100, 11, 0), 2048);
        due.is("the farthest REACH", x.drawn(12, 100, 0, 1), 4095);
        due.is("the nearest REACH", x.drawn(2, 0, 0, 1), 2);
    }

    private static void drawnOthers() {
        HalvingMender x = new HalvingMender();
        for (int n : new int[] {1, 13, 0, -1, MIN, MAX}) {
            due.is("drawn by n " + n, x.drawn(n, 100, 0, 0), -1);
            due.is("REACH by n " + n, x.drawn(n, 100, 0, 1), -1);
            due.is("draw by n " + n, x.draw(n, 100), false);
            due.is("loosest by n " + n, x.loosest(n, 1), -1);
        }
        for (int a : new int[] {-1, 101, MIN, MAX}) {
            due.is("drawn by a " + a, x.drawn(2, a, 0, 0), -1);
            due.is("REACH by a " + a, x.drawn(2, a, 0, 1), -1);
            due.is("draw by a " + a, x.draw(2, a), false);
            due.is("fewest by a " + a, x.fewest(a, 1), -1);
        }
        for (int i : new int[] {-1, 3, MIN, MAX}) {
            due.is("drawn by i " + i, x.drawn(3, 100, i, 0), -1);
        }
        due.is("the last BIT", x.drawn(3, 100, 2, 0), 4);
        for (int what : new int[] {-1, 2, MIN, MAX}) {
            due.is("drawn by what " + what, x.drawn(3, 100, 0, what), -1);
        }
        for (int reach : new int[] {0, -1, 4096, MIN, MAX}) {
            due.is("fewest by R " + reach, x.fewest(100, reach), -1);
            due.is("loosest by R " + reach, x.loosest(12, reach), -1);
        }
        due.is("nothing came of it", x.is(0), 0);
    }

    private static void fewest() {
        for (int a : new int[] {0, 1, 50, 85, 99, 100}) {
            HalvingMender x = new HalvingMender();
            for (int n = 2; n <= 12; n++) {
                due.is("just n", x.fewest(a, reach(n, a)), n);
                due.is("just not n", x.fewest(a, reach(n, a) + 1), n < 12 ? n + 1 : -1);
            }
            due.is("R 1: 2 at least", x.fewest(a, 1), 2);
            due.is("R 4095", x.fewest(a, 4095), a == 100 ? 12 : -1);
        }
    }

    private static void loosest() {
        for (int n = 2; n <= 12; n++) {
            HalvingMender x = new HalvingMender();
            for (int a : new int[] {0, 1, 33, 34, 50, 99, 100}) {
                for (int reach = reach(n, a); reach <= reach(n, a) + 1; reach++) {
                    int least = 0;
                    while (least <= 100 && reach(n, least) < reach) {
                        least++;
                    }
                    int told = reach > 4095 || least > 100 ? -1 : least;
                    due.is("loosest(" + n + ", " + reach + ")", x.loosest(n, reach), told);
                }
            }
            due.is("R 1", x.loosest(n, 1), 0);
            due.is("just all", x.loosest(n, (1 << n) - 1), 100);
            due.is("more than all", x.loosest(n, 1 << n), -1);
        }
    }

    private static void draw() {
        for (int n : new int[] {2, 12}) {
            for (int a : new int[] {0, 1, 99, 100}) {
                HalvingMender x = Due.of("b7:1;b7;b7;o5;g7;");
                x.stick(1, 0);
                x.learn(1, 1);
                x.see(1, 1);
                x.convert(1);
                due.is("draw", x.draw(n, a), true);
                due.is("BITS", x.is(0), n);
                due.is("REACH", x.is(9), reach(n, a));
                due.is("WORTHS", x.is(10), reach(n, a));
                due.is("STUCK", x.bit(1, 3), -1);
                due.is("no BIT behind", x.bit(n, 0), -100000);
                due.is("SEEN is nothing", x.is(7), 0);
                due.is("no CONVERSION was", x.converted(0), -1000000);
                due.is("OFFSET as it is", x.is(1), 5);
                due.is("STEP as it is", x.is(5), 7);
            }
        }
        HalvingMender none = new HalvingMender();
        due.is("where there were no BITS", none.draw(2, 0), true);
        due.is("BITS", none.is(0), 2);
        due.is("they convert", none.convert(9), 2);
    }

    // ---- a CROWD ----

    private static void crowdByM() {
        HalvingMender x = Due.of("b1;b2;b4;b8;");
        for (int m = 1; m <= 20; m++) {
            due.is("all of " + m + " ahead", x.crowd(MIN, m, 0, 1, 0), m);
            due.is("all of " + m + " behind", x.crowd(MAX, m, 0, 4, 1), m);
            due.is("none of " + m + " behind alone", x.crowd(0, m, 0, 4, 2), 0);
        }
        HalvingMender y = Due.of("b1;b2;b8;");
        for (int m = 1; m <= 20; m++) {
            due.is("none of " + m + " ahead", y.crowd(7, m, 0, 2, 0), 0);
            due.is("all of " + m + " behind", y.crowd(7, m, 0, 2, 1), m);
            due.is("all of " + m + " behind alone", y.crowd(7, m, 0, 2, 2), m);
        }
    }

    private static long draws;

    private static int draw(long m) {
        draws = draws * 1103515245L + 12345L & 0xFFFFFFFFL;
        return (int) (draws / 65536 % m);
    }

    /** OFFS of p 0, 1, 98 and 99, down to a WEIGHT of 1; each is put together in another object by the same DRAWS. */
    private static void crowdByP() {
        String[] texts = {"b1;b2;b3;b6;b11;o2;", "b100;b100;b180;b330;b600;g50;",
            "b120;b130;b140;b150;b220;b440;o-9;g64;"};
        boolean least = false;
        boolean most = false;
        boolean held = false;
        boolean[] among = new boolean[3];
        for (String text : texts) {
            for (int p : new int[] {0, 1, 98, 99}) {
                for (int seed : new int[] {1, -1, 77, 123456789, MIN, MAX}) {
                    HalvingMender x = Due.of(text);
                    HalvingMender y = Due.of(text);
                    int step = x.is(5);
                    int sizes = x.is(10);
                    int[] count = new int[3];
                    draws = seed & 0xFFFFFFFFL;
                    for (int n = 0; n < 20; n++) {
                        y.forget();
                        for (int i = 0; i < y.is(0); i++) {
                            int off = draw(2L * p + 1) - p;
                            least |= off == -99;
                            most |= off == 99;
                            held |= y.bit(i, 0) + off < 1;
                            due.is("off", y.off(i, Math.max(off, 1 - y.bit(i, 0))), true);
                        }
                        boolean ahead = y.histogram(0, sizes, step, 1) == 0;
                        y.learn(2, 1);
                        boolean behind = y.histogram(0, sizes, step, 1) == 0;
                        count[0] += ahead ? 1 : 0;
                        count[1] += behind ? 1 : 0;
                        count[2] += behind && !ahead ? 1 : 0;
                    }
                    for (int what = 0; what < 3; what++) {
                        String call = "crowd(" + seed + ", 20, " + p + ", 2, " + what + ")";
                        due.is(text + " " + call, Calls.ask(x, call), count[what]);
                        among[what] |= count[what] > 0;
                    }
                    due.is("X is aside", x.is(6), 1);
                }
            }
        }
        due.is("-99, 99, a WEIGHT that is held and some of each were among them",
            least && most && held && among[0] && among[1] && among[2], true);
    }

    private static void crowdByK() {
        HalvingMender x = Due.of("b1;b1;b8;");
        due.is("from 1 on", x.crowd(1, 1, 0, 1, 1), 1);
        due.is("from 2 on", x.crowd(1, 1, 0, 2, 1), 1);
        due.is("from BITS on none is learnt", x.crowd(1, 1, 0, 3, 1), 0);
        due.is("k beyond BITS", x.crowd(1, 1, 0, 4, 1), -1);
        due.is("k 0", x.crowd(1, 1, 0, 0, 1), -1);
    }

    /** All SIZES together by STEP, cut: 1999 is taken, 2000 isn't. */
    private static void crowdByWeight() {
        due.is("1999", Due.of("b1;b1998;").crowd(1, 1, 0, 1, 1), 1);
        due.is("2000", Due.of("b1;b1999;").crowd(1, 1, 0, 1, 1), -1);
        due.is("3999 by 2", Due.of("b1;b3998;g2;").crowd(1, 1, 0, 1, 1), 1);
        due.is("4000 by 2", Due.of("b1;b3999;g2;").crowd(1, 1, 0, 1, 1), -1);
        due.is("1999 by 60, cut, of more than 100000", Due.of("b9999;".repeat(12) + "g60;").crowd(1, 1, 0, 1, 0), 0);
        due.is("2033 by 59", Due.of("b9999;".repeat(12) + "g59;").crowd(1, 1, 0, 1, 0), -1);
        HalvingMender x = Due.of("b1;b1998;");
        x.off(1, 99);
        x.stick(0, 1);
        due.is("SIZES, not WEIGHTS", x.crowd(1, 1, 0, 1, 1), 1);
    }

    /** A HISTOGRAM from 0 up to all SIZES together, both too, by STEP. */
    private static void crowdFromTo() {
        due.is("8 is reached at 12 alone", Due.of("b1;b1;b2;b8;o-4;").crowd(1, 1, 0, 4, 0), 0);
        due.is("8 is reached at 13", Due.of("b1;b1;b2;b8;o-5;").crowd(1, 1, 0, 4, 0), 1);
        due.is("0 is 7 yet", Due.of("b1;b1;b2;b8;o7;").crowd(1, 1, 0, 4, 0), 0);
        due.is("0 is 8", Due.of("b1;b1;b2;b8;o8;").crowd(1, 1, 0, 4, 0), 1);
        // 34 together, by 5 up to 30: neither 34 nor 35
        due.is("30 is reached at 30", Due.of("b1;b1;b2;b30;g5;").crowd(1, 1, 0, 4, 0), 0);
        due.is("30 is reached at 31", Due.of("b1;b1;b2;b30;g5;o-1;").crowd(1, 1, 0, 4, 0), 1);
        due.is("30 is reached at 35", Due.of("b1;b1;b2;b30;g5;o-5;").crowd(1, 1, 0, 4, 0), 1);
    }

    /** ON PAPER, nothing STUCK, nothing OFF by p 0, nothing learnt ahead: only OFFSET and STEP are as here. */
    private static void crowdIsAside() {
        String[] calls = {"set(3, 20)", "set(1, 50)", "stick(0, 0)", "stick(2, 1)", "off(2, 9)", "learn(1, 8)", "seed(9)",
            "heat(9)"};
        for (int rule = 0; rule <= 3; rule++) {
            HalvingMender x = Due.of("b1;b2;b4;b8;");
            HalvingMender y = Due.of("b1;b1;b8;");
            x.set(2, rule);
            y.set(2, rule);
            for (String call : calls) {
                Calls.ask(x, call);
                Calls.ask(y, call);
                due.is("all ahead, behind " + call, x.crowd(1, 20, 0, 1, 0), 20);
                due.is("all behind, behind " + call, x.crowd(1, 20, 0, 1, 1), 20);
                due.is("none ahead, behind " + call, y.crowd(1, 20, 0, 2, 0), 0);
                due.is("all behind alone, behind " + call, y.crowd(1, 20, 0, 2, 2), 20);
            }
        }
    }

    private static void crowdOthers() {
        HalvingMender x = Due.of("b1;b2;b4;");
        int[][] others = {{0, 0, 1, 0}, {21, 0, 1, 0}, {MIN, 0, 1, 0}, {MAX, 0, 1, 0}, {1, -1, 1, 0}, {1, 100, 1, 0},
            {1, MIN, 1, 0}, {1, MAX, 1, 0}, {1, 0, 0, 0}, {1, 0, 4, 0}, {1, 0, MIN, 0}, {1, 0, MAX, 0}, {1, 0, 1, -1},
            {1, 0, 1, 3}, {1, 0, 1, MIN}, {1, 0, 1, MAX}};
        for (int[] o : others) {
            String call = "crowd(1, " + o[0] + ", " + o[1] + ", " + o[2] + ", " + o[3] + ")";
            due.is(call, Calls.ask(x, call), -1);
        }
        due.is("no BITS", new HalvingMender().crowd(1, 1, 0, 1, 0), -1);
    }
}
