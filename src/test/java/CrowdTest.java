/** Promises 25 to 28 and 38: crowd, drawn, fewest, draw, loosest. */
public final class CrowdTest {
    private static final Due due = new Due("CrowdTest");

    public static void main(String[] args) {
        drawn();
        fewest();
        loosest();
        draw();
        crowdOfOne();
        crowdByDraws();
        crowdIsAside();
        crowdEdges();
        due.end();
    }

    private static void drawn() {
        HalvingMender x = new HalvingMender();
        int[] by85 = {1, 1, 2, 4, 7, 13};
        for (int i = 0; i < by85.length; i++) {
            due.is("by 85: SIZE " + i, x.drawn(6, 85, i, 0), by85[i]);
        }
        due.is("by 85: REACH", x.drawn(6, 85, 0, 1), 28);
        due.is("REACH whatever i", x.drawn(6, 85, -99, 1), 28);
        due.is("by 100", x.drawn(12, 100, 11, 0), 2048);
        due.is("by 0", x.drawn(12, 0, 11, 0), 1);
        due.is("by 0: REACH", x.drawn(12, 0, 11, 1), 12);
        due.is("n 2", x.drawn(2, 99, 1, 0), 1);
        int[][] wrong = {{1, 50, 0, 0}, {13, 50, 0, 0}, {4, -1, 0, 0}, {4, 101, 0, 0}, {4, 50, 4, 0}, {4, 50, -1, 0},
            {4, 50, 0, 2}, {4, 50, 0, -1}, {1, 50, 0, 1}, {13, 50, 0, 1}, {4, 101, 0, 1}};
        for (int[] w : wrong) {
            due.is("others", x.drawn(w[0], w[1], w[2], w[3]), -1);
        }
        due.is("no BITS came", x.is(0), 0);
    }

    private static void fewest() {
        HalvingMender x = new HalvingMender();
        due.is("1", x.fewest(0, 1), 2);
        due.is("2", x.fewest(0, 2), 2);
        due.is("3", x.fewest(0, 3), 3);
        due.is("12", x.fewest(0, 12), 12);
        due.is("13", x.fewest(0, 13), -1);
        due.is("28 by 85", x.fewest(85, 28), 6);
        due.is("29 by 85", x.fewest(85, 29), 7);
        due.is("4095", x.fewest(100, 4095), 12);
        due.is("4096", x.fewest(100, 4096), -1);
        due.is("0", x.fewest(100, 0), -1);
        due.is("a -1", x.fewest(-1, 2), -1);
        due.is("a 101", x.fewest(101, 2), -1);
    }

    private static void loosest() {
        HalvingMender x = new HalvingMender();
        due.is("2 by 2", x.loosest(2, 2), 0);
        due.is("3 by 2", x.loosest(2, 3), 100);
        due.is("4 by 2", x.loosest(2, 4), -1);
        due.is("4 by 3: 1, 1, 2", x.loosest(3, 4), 50);
        due.is("4095", x.loosest(12, 4095), 100);
        due.is("4096", x.loosest(12, 4096), -1);
        due.is("1", x.loosest(12, 1), 0);
        due.is("0", x.loosest(12, 0), -1);
        due.is("n 1", x.loosest(1, 1), -1);
        due.is("n 13", x.loosest(13, 1), -1);
    }

    private static void draw() {
        HalvingMender x = Due.of("b9:5;b9:4;o3;d4;r1;n5;g6;");
        x.stick(0, 1);
        x.learn(1, 1);
        x.heat(8);
        Due.drift(x, "h");
        x.seed(99);
        x.see(0, 0);
        x.convert(1);
        int seed = x.is(6);
        due.is("draw", x.draw(6, 85), true);
        int[] by85 = {1, 1, 2, 4, 7, 13};
        for (int i = 0; i < 6; i++) {
            due.is("SIZE", x.bit(i, 0), by85[i]);
            due.is("OFF", x.bit(i, 1), 0);
            due.is("WORTH", x.bit(i, 2), by85[i]);
            due.is("STUCK", x.bit(i, 3), -1);
        }
        int[] is = {6, 3, 4, 1, 5, 6, seed, 0, 0, 28, 28, 8, 0};
        for (int what = 0; what < is.length; what++) {
            due.is("is(" + what + ")", x.is(what), is[what]);
        }
        due.is("no CONVERSION was", x.converted(0), -1000000);
        x.pass(1);
        due.is("DRIFT is as it was", x.bit(0, 1), 8);
        x.see(0, 0);
        x.convert(0);
        due.is("n 1", x.draw(1, 50), false);
        due.is("n 13", x.draw(13, 50), false);
        due.is("a -1", x.draw(4, -1), false);
        due.is("a 101", x.draw(4, 101), false);
        due.is("all stays", x.is(0), 6);
        due.is("all stays", x.is(7), 1);
        due.is("all stays", x.converted(1) >= 0, true);
    }

    private static void crowdOfOne() {
        // OFFS of 0: as its SIZES are; 1, 2, 4, 8 are whole
        HalvingMender x = Due.of("b1;b2;b4;b8;");
        due.is("whole ahead", x.crowd(1, 20, 0, 1, 0), 20);
        due.is("whole behind", x.crowd(1, 20, 0, 1, 1), 20);
        due.is("whole behind alone", x.crowd(1, 20, 0, 1, 2), 0);
        // 1, 2, 8: 4 is MISSING; learnt from 1 on: 1, 1, 2: codes 0 .. 4
        HalvingMender y = Due.of("b1;b2;b8;");
        due.is("not whole ahead", y.crowd(1, 3, 0, 2, 0), 0);
        due.is("whole behind", y.crowd(1, 3, 0, 2, 1), 3);
        due.is("whole behind alone", y.crowd(1, 3, 0, 2, 2), 3);
        due.is("none is learnt", y.crowd(1, 3, 0, 3, 1), 0);
        // whatever is OFF, STUCK, learnt or noisy here does not count
        y.off(2, -3);
        y.stick(1, 1);
        y.learn(1, 1);
        y.set(3, 20);
        y.set(1, 50);
        y.set(2, 0);
        due.is("nothing STUCK, OFF, noisy", y.crowd(1, 3, 0, 2, 2), 3);
        due.is("nothing learnt ahead", y.crowd(1, 3, 0, 2, 0), 0);
    }

    private static int draws;

    private static int draw(int m) {
        draws = draws * 1103515245 + 12345;
        return (draws >>> 16) % m;
    }

    /** Each of a CROWD is put together by its DRAWS in another object, and asked there. */
    private static void crowdByDraws() {
        String text = "b1;b2;b3;b6;b11;o2;g1;";
        HalvingMender x = Due.of(text);
        HalvingMender y = Due.of(text);
        boolean[] among = new boolean[3];
        for (int seed = 0; seed < 12; seed++) {
            for (int p = 0; p <= 6; p += 3) {
                int[] count = new int[3];
                draws = seed * 7919 - 5;
                for (int n = 0; n < 6; n++) {
                    y.forget();
                    for (int i = 0; i < 5; i++) {
                        y.off(i, Math.max(draw(2 * p + 1) - p, 1 - y.bit(i, 0)));
                    }
                    boolean ahead = y.histogram(0, 23, 1, 1) == 0;
                    y.learn(2, 1);
                    boolean behind = y.histogram(0, 23, 1, 1) == 0;
                    count[0] += ahead ? 1 : 0;
                    count[1] += behind ? 1 : 0;
                    count[2] += behind && !ahead ? 1 : 0;
                }
                for (int what = 0; what < 3; what++) {
                    due.is("crowd by " + seed + ", " + p + ": " + what,
                        x.crowd(seed * 7919 - 5, 6, p, 2, what), count[what]);
                    among[what] |= count[what] > 0;
                }
            }
        }
        due.is("some of each", among[0] && among[1] && among[2], true);
    }

    private static void crowdIsAside() {
        HalvingMender x = Due.of("b1;b2;b4:1;n3;");
        x.stick(0, 1);
        x.learn(2, 1);
        int worth = x.bit(2, 2);
        int seed = x.is(6);
        x.crowd(5, 20, 9, 1, 0);
        due.is("X", x.is(6), seed);
        due.is("OFF", x.bit(2, 1), 1);
        due.is("STUCK", x.bit(0, 3), 1);
        due.is("WORTH", x.bit(2, 2), worth);
        due.is("NOISE", x.is(4), 3);
    }

    private static void crowdEdges() {
        HalvingMender x = Due.of("b1;b2;b4;");
        int[][] wrong = {{0, 0, 1, 0}, {21, 0, 1, 0}, {1, -1, 1, 0}, {1, 100, 1, 0}, {1, 0, 0, 0}, {1, 0, 4, 0},
            {1, 0, 1, 3}, {1, 0, 1, -1}};
        for (int[] w : wrong) {
            due.is("others", x.crowd(1, w[0], w[1], w[2], w[3]), -1);
        }
        due.is("p 99", x.crowd(1, 20, 99, 1, 0) >= 0, true);
        due.is("k is BITS", x.crowd(1, 1, 0, 3, 1), 1);
        due.is("no BITS", new HalvingMender().crowd(1, 1, 0, 1, 0), -1);
        due.is("2000", Due.of("b1;b1999;").crowd(1, 1, 0, 1, 0), -1);
        due.is("1999", Due.of("b1;b1998;").crowd(1, 1, 0, 1, 0), 0);
        due.is("4000 by 2", Due.of("b1;b3999;g2;").crowd(1, 1, 0, 1, 0), -1);
        due.is("3999 by 2", Due.of("b1;b3998;g2;").crowd(1, 1, 0, 1, 0), 0);
        due.is("OFFS do not count", Due.of("b1;b1998:99;").crowd(1, 1, 0, 1, 0), 0);
    }
}
