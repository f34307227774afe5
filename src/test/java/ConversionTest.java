/** Promises 12 to 16 and 36: convert, decision, converted, write, octet, mean. */
public final class ConversionTest {
    private static final Due due = new Due("ConversionTest");

    public static void main(String[] args) {
        plain();
        offsetAndStep();
        rules();
        stuck();
        noise();
        noiseAheadOfRule();
        refused();
        written();
        mean();
        due.end();
    }

    /** The DRAWS, reckoned here once more. */
    private static int draws;

    private static int draw(int m) {
        draws = draws * 1103515245 + 12345;
        return (draws >>> 16) % m;
    }

    private static void rows(HalvingMender x, String what, int[][] rows) {
        for (int n = 0; n < rows.length; n++) {
            int i = rows.length - 1 - n;
            for (int k = 0; k < 4; k++) {
                due.is(what + ": decision(" + i + ", " + k + ")", x.decision(i, k), rows[n][k]);
            }
        }
    }

    private static void all(HalvingMender x, String what, int... told) {
        for (int k = 0; k < told.length; k++) {
            due.is(what + ": converted(" + k + ")", x.converted(k), told[k]);
        }
    }

    private static void plain() {
        HalvingMender x = Due.of("b1;b2:1;b3;b6:-1;");
        // WEIGHTS 1, 3, 3, 5; WORTHS 1, 2, 3, 6
        due.is("convert", x.convert(8), 9);
        rows(x, "8", new int[][] {{1, 0, 3, 5}, {1, 0, 0, 8}, {0, 0, -3, 8}, {0, 0, -1, 8}});
        all(x, "8", 9, 8, 0, 0, 2, 9);
        due.is("convert", x.convert(7), 7);
        rows(x, "7", new int[][] {{1, 0, 2, 5}, {0, 0, -1, 5}, {0, 0, -1, 5}, {1, 0, 1, 6}});
        all(x, "7", 7, 6, 1, 0, 2);
        due.is("draws nothing", x.is(6), 1);
    }

    private static void offsetAndStep() {
        HalvingMender x = Due.of("b1;b2;b4;o-2;g3;");
        // 6 less 2: 4; (4 * 2 + 3) / 6 is 1
        due.is("convert", x.convert(6), 1);
        all(x, "6", 4, 4, 0, 0, 1, 1);
        // 100 less 2: 7 held; (14 + 3) / 6 is 2
        due.is("convert", x.convert(100), 2);
        all(x, "100", 7, 7, 91, 0, 3, 2);
        due.is("an even STEP rounds halves up", x.set(4, 2), true);
        due.is("SUM 3 by 2", x.convert(5), 2);
        due.is("SUM 1 by 2", x.convert(3), 1);
        due.is("below all", x.convert(-100000), 0);
        due.is("LEFT", x.converted(2), -100002);
    }

    private static void rules() {
        HalvingMender x = Due.of("b1;b2;b4;b8;d2;r0;");
        // 7: d -1 is LATE, so 1; then all are far below
        due.is("RULE 0", x.convert(7), 8);
        rows(x, "RULE 0", new int[][] {{1, 1, -1, 8}, {0, 0, -5, 8}, {0, 0, -3, 8}, {0, 0, -2, 8}});
        all(x, "RULE 0", 8, 8, -1, 1, 1, 8);
        x.set(2, 1);
        // 9: d 1 is LATE, so 0; then 5, 3 and 2 are left over
        due.is("RULE 1", x.convert(9), 7);
        rows(x, "RULE 1", new int[][] {{0, 1, 1, 0}, {1, 0, 5, 4}, {1, 0, 3, 6}, {1, 0, 2, 7}});
        all(x, "RULE 1", 7, 7, 2, 1, 3, 7);
        x.set(2, 3);
        due.is("RULE 3", x.convert(9), 9);
        rows(x, "RULE 3", new int[][] {{1, 1, 1, 8}, {0, 0, -3, 8}, {0, 1, -1, 8}, {1, 1, 0, 9}});
        due.is("nothing is drawn", x.is(6), 1);
        x.set(2, 2);
        for (int n = 0; n < 20; n++) {
            x.seed(n);
            draws = n;
            int first = draw(2);
            x.convert(8);
            due.is("RULE 2 draws", x.decision(3, 0), first);
            due.is("RULE 2 is LATE", x.decision(3, 1), 1);
        }
        x.set(1, 0);
        x.seed(1);
        x.convert(8);
        due.is("BAND 0: none is LATE", x.converted(3), 0);
        due.is("and none is drawn", x.is(6), 1);
    }

    private static void stuck() {
        HalvingMender x = Due.of("b1;b2;b4;d3;r2;n2;");
        x.stick(2, 1);
        x.stick(0, 0);
        x.seed(5);
        draws = 5;
        int d2 = 3 + draw(5) - 2 - 4;
        int d1 = 3 + draw(5) - 2 - 4 - 2;
        int one1 = d1 > -3 && d1 < 3 ? draw(2) : d1 >= 0 ? 1 : 0;
        int d0 = 3 + draw(5) - 2 - 4 - 2 * one1 - 1;
        x.convert(3);
        due.is("d of a STUCK one", x.decision(2, 2), d2);
        due.is("STUCK at 1", x.decision(2, 0), 1);
        due.is("is not LATE", x.decision(2, 1), 0);
        due.is("d behind it", x.decision(1, 2), d1);
        due.is("one behind it", x.decision(1, 0), one1);
        due.is("d of the last", x.decision(0, 2), d0);
        due.is("STUCK at 0", x.decision(0, 0), 0);
        due.is("drawn all the same, the RULE's aside", x.is(6), draws);
    }

    private static void noise() {
        HalvingMender x = Due.of("b1;b2;b4;b8;n3;");
        for (int seed = -3; seed < 20; seed++) {
            x.seed(seed);
            draws = seed;
            int held = 0;
            x.convert(9);
            for (int i = 3; i >= 0; i--) {
                int d = 9 + draw(7) - 3 - held - (1 << i);
                held += d >= 0 ? 1 << i : 0;
                due.is("d with NOISE", x.decision(i, 2), d);
                due.is("HELD with NOISE", x.decision(i, 3), held);
            }
            due.is("LEFT is without NOISE", x.converted(2), 9 - held);
            due.is("X", x.is(6), draws);
        }
    }

    private static void noiseAheadOfRule() {
        HalvingMender x = Due.of("b1;b9000;n1;d3;r2;");
        x.seed(11);
        draws = 11;
        int d = 9000 + draw(3) - 1 - 9000;
        int one = draw(2);
        x.convert(9000);
        due.is("d", x.decision(1, 2), d);
        due.is("one", x.decision(1, 0), one);
    }

    private static void refused() {
        HalvingMender x = new HalvingMender();
        x.set(3, 5);
        due.is("no BITS", x.convert(0), -1000000);
        Due.text(x, "b1;b2;n5;");
        due.is("none was", x.decision(0, 0), -1000000);
        due.is("none was", x.converted(0), -1000000);
        due.is("none was", x.write(), -1);
        due.is("too far", x.convert(100001), -1000000);
        due.is("too far", x.convert(-100001), -1000000);
        due.is("nothing is drawn", x.is(6), 1);
        due.is("still none was", x.converted(5), -1000000);
        x.set(3, 0);
        due.is("far", x.convert(100000), 3);
        x.convert(200000);
        due.is("the latest that was one", x.converted(2), 99997);
        due.is("others", x.converted(6), -1000000);
        due.is("others", x.converted(-1), -1000000);
        due.is("others", x.decision(0, 4), -1000000);
        due.is("others", x.decision(0, -1), -1000000);
        due.is("others", x.decision(2, 0), -1000000);
        due.is("others", x.decision(-1, 0), -1000000);
        x.code(0);
        x.mean(0, 3);
        x.learn(1, 1);
        due.is("only convert() counts", x.converted(0), 3);
        x.off(0, 5);
        due.is("it is told as it was", x.decision(0, 3), 3);
    }

    private static void written() {
        HalvingMender x = Due.of("b1;b2;b4;b8;b20;d2;r0;");
        due.is("nothing yet", x.octet(0), -1);
        // 7: 0 far; LATE 1; then 0, 0, 0
        x.convert(7);
        due.is("write", x.write(), 5);
        String signs = "0+000";
        for (int k = 0; k < 5; k++) {
            due.is("octet " + k, x.octet(k), signs.charAt(k));
        }
        due.is("octet 5", x.octet(5), -1);
        due.is("octet -1", x.octet(-1), -1);
        x.set(2, 1);
        x.convert(29);
        due.is("what was written latest", x.octet(1), '+');
        due.is("write again", x.write(), 5);
        // 29: 1 (9 left), LATE 0 (d 1), then 1, 1, 1
        signs = "1-111";
        for (int k = 0; k < 5; k++) {
            due.is("octet " + k, x.octet(k), signs.charAt(k));
        }
        Due.text(x, "b1;b2;");
        due.is("no CONVERSION was", x.write(), -1);
        due.is("what was written latest", x.octet(1), '-');
        x.convert(2);
        due.is("write", x.write(), 2);
        due.is("octet 1", x.octet(1), '0');
        due.is("octet 2 is gone", x.octet(2), -1);
    }

    private static void mean() {
        HalvingMender x = Due.of("b1;b2;d1;r2;");
        // of 1: BIT 0 is a DRAW of 2 (d 0 is LATE), unless BIT 1 (d -1 isn't)
        x.seed(3);
        draws = 3;
        int together = 0;
        for (int n = 0; n < 7; n++) {
            together += draw(2);
        }
        due.is("mean of 7", x.mean(1, 7), (together * 2 + 7) / 14);
        due.is("it draws", x.is(6), draws);
        boolean halves = false;
        for (int seed = 0; seed < 40; seed++) {
            draws = seed;
            int two = draw(2) + draw(2);
            x.seed(seed);
            due.is("mean of 2", x.mean(1, 2), (two + 1) / 2);
            halves |= two == 1;
        }
        due.is("halves were among them", halves, true);
        due.is("r 0", x.mean(1, 0), -1000000);
        due.is("r 101", x.mean(1, 101), -1000000);
        due.is("x too far", x.mean(100001, 1), -1000000);
        due.is("x too far", x.mean(-100001, 1), -1000000);
        due.is("r 100", x.mean(100000, 100), 3);
        due.is("r 1", x.mean(-100000, 1), 0);
        due.is("none was", x.converted(0), -1000000);
        due.is("no BITS", new HalvingMender().mean(0, 1), -1000000);
        HalvingMender y = Due.of("b9999;b9999;b9999;b9999;b9999;b9999;b9999;b9999;b9999;b9999;b9999;b9999;");
        for (int i = 0; i < 12; i++) {
            y.stick(i, 1);
        }
        y.learn(1, 1);
        // each WORTH is all WORTHS below together: 9999 times 2 to the 11th in all
        due.is("together beyond half of all ints", y.mean(0, 100), 9999 << 11);
    }
}
