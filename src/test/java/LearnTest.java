/** Promises 17 and 18: learn and forget. */
public final class LearnTest {
    private static final Due due = new Due("LearnTest");

    public static void main(String[] args) {
        pairs();
        offsetTurned();
        belowAreSizes();
        byNoiseAndRule();
        stuckBelow();
        howManyAreShort();
        refused();
        forget();
        due.end();
    }

    private static void worths(HalvingMender x, String what, int... worths) {
        for (int i = 0; i < worths.length; i++) {
            due.is(what + ": WORTH of " + i, x.bit(i, 2), worths[i]);
        }
    }

    private static void pairs() {
        HalvingMender x = Due.of("b1;b2:-1;b3;b4:1;b9:-2;");
        // WEIGHTS 1, 1, 3, 5, 7. BIT 3 (5) by 1, 2, 3: 3 and 1 and 2 held: WORTH 6; BIT 4 (7): 5, 1, 1: 6 + 2 + 1
        due.is("from 3", x.learn(3, 1), 0);
        worths(x, "from 3", 1, 2, 3, 6, 9);
        // from 1: BIT 1 (1): 1; BIT 2 (3): 1 + 1; BIT 3 (5): all three, 1 + 1 + 2; BIT 4 (7): 5, 1, 1: 4 + 1 + 1
        due.is("from 1, SHORT is BIT 2 alone", x.learn(1, 8), 1);
        worths(x, "from 1", 1, 1, 2, 4, 6);
    }

    private static void offsetTurned() {
        HalvingMender x = Due.of("b1;b2;b4:1;o1;");
        // BIT 2 (5): 6 by 2, 1: 3; 4: 3; so 3
        x.learn(2, 1);
        worths(x, "both far above", 1, 2, 3);
        x = Due.of("b1;b2;b4;b4:-1;o2;");
        // BIT 3 (3): 5 by 4, 2, 1: 5; 1: 1; (5 + 1) / 2
        x.learn(3, 3);
        worths(x, "turned round", 1, 2, 4, 3);
        x = Due.of("b1;b2;b4;b4:-1;o4;");
        // 7: 7; -1: 0; 3.5 goes up
        x.learn(3, 1);
        worths(x, "halves up", 1, 2, 4, 4);
        due.is("OFFSET is as it was", x.is(1), 4);
    }

    private static void belowAreSizes() {
        HalvingMender x = Due.of("b1;b2;b4:1;b8:1;");
        x.learn(1, 1);
        worths(x, "from 1", 1, 1, 2, 4);
        x.learn(3, 1);
        // BITS below 3 are SIZES again: 9 by 5, 2, 1: 7
        worths(x, "from 3", 1, 2, 4, 7);
        x.learn(1, 1);
        x.learn(4, 1);
        worths(x, "from BITS", 1, 2, 4, 8);
    }

    private static int draws;

    private static int draw(int m) {
        draws = draws * 1103515245 + 12345;
        return (draws >>> 16) % m;
    }

    /** Bits of WEIGHT 1, 2 and BIT 2; by the DRAWS in the order in which they are due. */
    private static void byNoiseAndRule() {
        HalvingMender x = Due.of("b1;b2;b3;n2;d2;r2;o1;");
        for (int seed = 0; seed < 30; seed++) {
            x.seed(seed);
            draws = seed;
            int together = 0;
            for (int n = 0; n < 2 * 3; n++) {
                int held = 0;
                for (int i = 1; i >= 0; i--) {
                    int d = 3 + (n % 2 == 0 ? 1 : -1) + draw(5) - 2 - held - (i + 1);
                    int one = d > -2 && d < 2 ? draw(2) : d >= 0 ? 1 : 0;
                    held += one * (i + 1);
                }
                together += held;
            }
            due.is("learn", x.learn(2, 3), 0);
            due.is("WORTH", x.bit(2, 2), (together + 3) / 6);
            due.is("X", x.is(6), draws);
        }
    }

    private static void stuckBelow() {
        HalvingMender x = Due.of("b1;b2;b4;b8;");
        x.stick(1, 0);
        x.stick(3, 1);
        x.learn(2, 1);
        // BIT 2 (4) by BIT 1 (never) and BIT 0: 1; BIT 3 (8): 1 + 1; whether it is STUCK itself is all one
        worths(x, "STUCK", 1, 2, 1, 2);
    }

    private static void howManyAreShort() {
        HalvingMender x = Due.of("b1;b2;b4;b8;");
        due.is("from 1", x.learn(1, 1), 3);
        due.is("from 3", x.learn(3, 1), 1);
        due.is("from BITS", x.learn(4, 1), 0);
        x.off(2, -1);
        due.is("3 is not above 3", x.learn(1, 1), 2);
    }

    private static void refused() {
        HalvingMender x = new HalvingMender();
        due.is("no BITS", x.learn(1, 1), -1);
        due.is("no BITS", x.learn(0, 1), -1);
        Due.text(x, "b1;b2;b4:1;");
        due.is("k 0", x.learn(0, 1), -1);
        due.is("k beyond BITS", x.learn(4, 1), -1);
        due.is("r 0", x.learn(1, 0), -1);
        due.is("r 9", x.learn(1, 9), -1);
        worths(x, "nothing is learnt", 1, 2, 4);
        due.is("r 8", x.learn(1, 8), 2);
    }

    private static void forget() {
        HalvingMender x = Due.of("b1;b2;b4:1;b8:1;");
        due.is("nothing changed", x.forget(), 0);
        x.learn(3, 1);
        due.is("one changed", x.forget(), 1);
        worths(x, "SIZES", 1, 2, 4, 8);
        x.learn(1, 1);
        due.is("three changed", x.forget(), 3);
        worths(x, "SIZES", 1, 2, 4, 8);
        due.is("no BITS", new HalvingMender().forget(), 0);
    }
}
