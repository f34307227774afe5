/** Promises 44 to 46: bench, stopped, row. */
public final class BenchTest {
    private static final Due due = new Due("BenchTest");

    public static void main(String[] args) {
        allActs();
        actsAreCalls();
        refused();
        isSo();
        faults();
        forty();
        latestThatWasWell();
        due.end();
    }

    private static void rows(HalvingMender x, String what, int... rows) {
        for (int k = 0; k < rows.length; k++) {
            due.is(what + ": row(" + k + ")", x.row(k), rows[k]);
        }
        due.is(what + ": no row more", x.row(rows.length), -1000000);
        due.is(what + ": row(-1)", x.row(-1), -1000000);
    }

    private static void allActs() {
        HalvingMender x = Due.of("b1;b2;b4;b8;");
        Due.drift(x, "h");
        int done = Due.bench(x, "c11;=11;l1,1;f;o3,1;l1,8;f;h3;p2;s0,1;s0,-1;x-9999;c-5;=0;=0;");
        due.is("done", done, 15);
        due.is("stopped", x.stopped(), -1);
        rows(x, "all", 11, 11, 3, 3, 1, 3, 3, 1, 8, 1, 1, 1, 0, 0, 0);
        due.is("the tape is empty", x.is(8), 0);
        due.is("X", x.is(6), -9999);
        due.is("HEAT", x.is(11), 3);
        due.is("HOUR", x.is(12), 2);
        due.is("OFF", x.bit(3, 1), 7);
    }

    private static void actsAreCalls() {
        HalvingMender x = Due.of("b1;b2;b4;n2;r2;d2;");
        HalvingMender y = Due.of("b1;b2;b4;n2;r2;d2;");
        due.is("done", Due.bench(x, "x7;c5;l1,3;c3;"), 4);
        y.seed(7);
        int first = y.convert(5);
        int learnt = y.learn(1, 3);
        int second = y.convert(3);
        rows(x, "with NOISE", 1, first, learnt, second);
        due.is("X", x.is(6), y.is(6));
        due.is("the latest CONVERSION", x.converted(2), y.converted(2));
        due.is("the latest CONVERSION is written", x.write(), 3);
    }

    private static void refused() {
        String[] texts = {"c1;", "l1,1;", "p0;", "p101;", "h100;", "s0,1;", "o0,1;", "=0;", "=-1;"};
        HalvingMender none = new HalvingMender();
        for (String text : texts) {
            due.is("refused " + text, Due.bench(none, text + "f;"), 0);
            due.is("stopped " + text, none.stopped(), 0);
            rows(none, text);
        }
        String[] more = {"l0,1;", "l4,1;", "l1,9;", "s0,2;", "s0,-2;", "s3,0;", "o0,100;", "o0,-1;", "=1;"};
        for (String text : more) {
            HalvingMender x = Due.of("b1;b2;b4;");
            due.is("refused " + text, Due.bench(x, "f;h7;c3;" + text + "h9;"), 3);
            due.is("stopped " + text, x.stopped(), 3);
            rows(x, text, 0, 1, 3);
            due.is("what was done stays done, what is behind isn't", x.is(11), 7);
        }
        due.is("without BITS", Due.bench(none, "f;p100;h99;x5;"), 4);
        rows(none, "without BITS", 0, 0, 1, 1);
    }

    private static void isSo() {
        HalvingMender x = Due.of("b1;b2;b4;");
        due.is("=", Due.bench(x, "c5;=5;=5;=4;c1;"), 3);
        due.is("the fourth", x.stopped(), 3);
        rows(x, "=", 5, 5, 5);
        due.is("heat tells 1", Due.bench(x, "h5;=1;s1,1;=1;s1,-1;=1;o1,1;=1;x9;=1;f;=0;"), 12);
        due.is("nothing was told", Due.bench(x, "=1;"), 0);
        due.is("=-1 never is so", Due.bench(x, "=-1;"), 0);
        due.is("at once", x.stopped(), 0);
        due.is("=-0", Due.bench(x, "c0;=-0;"), 2);
    }

    private static void faults() {
        String[] texts = {"c;", "c", "c1", "l2;", "l2,", "l-2,1;", "l2,-1;", "p-1;", "h-1;", "x-;", "x", "k", "f1;", "f",
            "s1;", "s-1,1;", "s1,-;", "o1,--1;", "o-1,1;", "=;", "c12345;", "c1;c", "c1;;", ";", " c1;", "c 1;", "s1,1,1;",
            "c1,1;", "C1;", "c1;f;k1;", "l1.1;", "c1:",
            "s0,99999;", "o1,-00001", "l1,12345", "x-123456;", "=00000;"};
        int[] places = {1, 1, 2, 2, 3, 1, 3, 1, 1, 2, 1, 0, 1, 1,
            2, 1, 4, 4, 1, 1, 5, 4, 3, 0, 0, 1, 4,
            2, 0, 5, 2, 2,
            7, 8, 7, 6, 5};
        HalvingMender x = Due.of("b1;b2;");
        for (int n = 0; n < texts.length; n++) {
            due.is("bench '" + texts[n] + "'", Due.bench(x, texts[n]), -1);
            due.is("FAULT of '" + texts[n] + "'", x.fault(), places[n]);
            due.is("the tape is empty", x.is(8), 0);
        }
        due.is("nothing is done", x.converted(0), -1000000);
        due.is("numbers are not asked", Due.bench(x, "h9999;"), 0);
        due.is("numbers are not asked", x.fault(), -1);
        due.is("four digits", Due.bench(x, "c-9999;c9999;c0009;"), 3);
    }

    private static void forty() {
        HalvingMender x = Due.of("b1;b2;");
        due.is("forty", Due.bench(x, "c3;".repeat(40)), 40);
        due.is("row 39", x.row(39), 3);
        due.is("row 40", x.row(40), -1000000);
        due.is("forty-one", Due.bench(x, "f;".repeat(40) + "f;"), -1);
        due.is("at its first byte", x.fault(), 80);
        due.is("what is no ACT there", Due.bench(x, "f;".repeat(40) + "k"), -1);
        due.is("at the same", x.fault(), 80);
        due.is("the latest that was not NONE", x.row(39), 3);
        due.is("the last is refused", Due.bench(x, "f;".repeat(39) + "=1;"), 39);
        due.is("stopped", x.stopped(), 39);
    }

    private static void latestThatWasWell() {
        HalvingMender x = Due.of("b1;b2;");
        due.is("ahead of any", x.stopped(), -1);
        due.is("ahead of any", x.row(0), -1000000);
        Due.bench(x, "c3;=2;");
        due.is("stopped", x.stopped(), 1);
        Due.bench(x, "c1;c2;c");
        due.is("still", x.stopped(), 1);
        rows(x, "still", 3);
        Due.text(x, "b5;b6;");
        rows(x, "behind text()", 3);
        due.is("empty", Due.bench(x, ""), 0);
        due.is("none did", x.stopped(), -1);
        rows(x, "empty");
    }
}
