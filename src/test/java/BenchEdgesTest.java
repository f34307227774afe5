/** Terms, a BENCH, and promises 5 and 44 to 46: each limit from both sides. */
public final class BenchEdgesTest {
    private static final Due due = new Due("BenchEdgesTest");
    private static final String DIGITS = "0123456789";
    private static final int MIN = Integer.MIN_VALUE;
    private static final int MAX = Integer.MAX_VALUE;

    public static void main(String[] args) {
        empty();
        fortyActs();
        fullTape();
        numbers();
        endsTooEarly();
        firstByteThatStops();
        converts();
        learns();
        passes();
        heats();
        sticks();
        offs();
        forgetsAndSeeds();
        isSo();
        endedByOne();
        rowsOfTheLatest();
        due.end();
    }

    private static HalvingMender four() {
        return Due.of("b1;b2;b4;b8;");
    }

    /** Well: so many ACTS are done, and the one behind them, if there is one, is refused. */
    private static void done(HalvingMender x, String text, int done, int stopped) {
        due.is("bench '" + text + "'", Due.bench(x, text), done);
        due.is("FAULT of '" + text + "'", x.fault(), -1);
        due.is("stopped of '" + text + "'", x.stopped(), stopped);
        due.is("the row behind the last of '" + text + "'", x.row(done), -1000000);
        due.is("the tape is empty", x.is(8), 0);
    }

    private static void taken(String act, int told) {
        HalvingMender x = four();
        done(x, act, 1, -1);
        due.is("row of " + act, x.row(0), told);
    }

    private static void refused(String act) {
        HalvingMender x = four();
        done(x, act + "h7;", 0, 0);
        due.is("nothing behind " + act, x.is(11), 0);
        HalvingMender y = four();
        done(y, "h5;" + act + "h7;", 1, 1);
        due.is("row ahead of " + act, y.row(0), 1);
        due.is("nothing behind " + act, y.is(11), 5);
    }

    private static void wrong(String text, int place) {
        for (String ahead : new String[] {"", "h9;", "c1;f;"}) {
            HalvingMender x = four();
            Due.bench(x, "c3;=4;");
            due.is("bench '" + ahead + text + "'", Due.bench(x, ahead + text), -1);
            due.is("FAULT of '" + ahead + text + "'", x.fault(), ahead.length() + place);
            due.is("nothing is done", x.is(11), 0);
            due.is("the latest that was not NONE", x.stopped(), 1);
            due.is("the latest that was not NONE", x.row(0), 3);
            due.is("the latest that was not NONE", x.row(1), -1000000);
            due.is("the tape is empty", x.is(8), 0);
        }
    }

    // ---- the text ----

    private static void empty() {
        HalvingMender x = new HalvingMender();
        due.is("ahead of any", x.stopped(), -1);
        due.is("ahead of any", x.row(0), -1000000);
        done(x, "", 0, -1);
    }

    private static void fortyActs() {
        for (String act : new String[] {"c1;", "l1,1;", "p1;", "h1;", "s0,1;", "o0,1;", "f;", "x1;"}) {
            HalvingMender x = four();
            done(x, act.repeat(40), 40, -1);
            due.is("row 39", x.row(39) != -1000000, true);
            done(x, act.repeat(39), 39, -1);
            due.is("row 39 of 39", x.row(39), -1000000);
            // the 41st: at its first byte, whatever it is
            for (String more : new String[] {act, "f;", "k", act.substring(0, 1), ";", "c12345;"}) {
                due.is("41 of " + act, Due.bench(x, act.repeat(40) + more), -1);
                due.is("FAULT of the 41st", x.fault(), 40 * act.length());
            }
            due.is("the latest that was not NONE", x.row(38) != -1000000, true);
            due.is("the latest that was not NONE", x.row(39), -1000000);
        }
        HalvingMender x = four();
        done(x, "c3;" + "=3;".repeat(39), 40, -1);
        done(x, "c3;" + "=3;".repeat(38) + "=4;", 39, 39);
        due.is("row 38", x.row(38), 3);
        due.is("row 39", x.row(39), -1000000);
    }

    private static void fullTape() {
        HalvingMender x = Due.of("b1;".repeat(12));
        String text = "o11,-0000;".repeat(40);
        due.is("400 bytes", text.length(), 400);
        done(x, text, 40, -1);
        due.is("its last byte", Due.bench(x, text.substring(0, 399) + ":"), -1);
        due.is("FAULT", x.fault(), 399);
        due.is("399 bytes", Due.bench(x, text.substring(0, 399)), -1);
        due.is("FAULT", x.fault(), 399);
        due.is("400 bytes and no end", Due.bench(x, "o0011,-0000;".repeat(33) + "o1,1"), -1);
        due.is("FAULT", x.fault(), 400);
    }

    private static void numbers() {
        for (String act : new String[] {"c", "l", "p", "h", "s", "o", "x", "="}) {
            boolean minus = "cx=".contains(act);
            wrong(act + ";", 1);
            wrong(act + "12345;", 5);
            wrong(act + "00000;", 5);
            wrong(act + "+1;", 1);
            wrong(act + " 1;", 1);
            if (minus) {
                wrong(act + "-;", 2);
                wrong(act + "--1;", 2);
                wrong(act + "-12345;", 6);
                wrong(act + "-00001;", 6);
                wrong(act + "1,1;", 2);
            } else {
                wrong(act + "-1;", 1);
                wrong(act + "-1,1;", 1);
            }
        }
        for (String act : new String[] {"l", "s", "o"}) {
            wrong(act + "1;", 2);
            wrong(act + "1,;", 3);
            wrong(act + "1:1;", 2);
            wrong(act + "1,12345;", 7);
            wrong(act + "1,00000;", 7);
            wrong(act + "1,1,1;", 4);
            wrong(act + "12345,1;", 5);
        }
        wrong("l1,-1;", 3);
        for (String act : new String[] {"s", "o"}) {
            wrong(act + "1,-;", 4);
            wrong(act + "1,--1;", 4);
            wrong(act + "1,-12345;", 8);
        }
        wrong("p1,1;", 2);
        wrong("h1,1;", 2);
        wrong("f1;", 1);
        wrong("f-;", 1);
        wrong("k1;", 0);
        wrong(";", 0);
        wrong("C1;", 0);
        wrong(" c1;", 0);
        // one that is out of reach is no FAULT: it is refused
        for (String act : new String[] {"l9999,1;", "l1,9999;", "p9999;", "h9999;", "s9999,1;", "s0,-9999;", "o9999,1;",
            "o0,9999;", "=9999;", "=-9999;"}) {
            refused(act);
        }
        taken("c9999;", 15);
        taken("c-9999;", 0);
        taken("c0011;", 11);
        taken("c-0;", 0);
        taken("l0001,0008;", 3);
        taken("s0003,0001;", 1);
        taken("o0003,-0007;", 1);
    }

    private static void endsTooEarly() {
        String text = "c-12;l1,2;p34;h56;s0,-1;o1,-1;f;x-6;=1;";
        for (int n = 0; n <= text.length(); n++) {
            String part = text.substring(0, n);
            HalvingMender x = four();
            boolean whole = part.isEmpty() || part.endsWith(";");
            int acts = part.length() - part.replace(";", "").length();
            due.is("bench '" + part + "'", Due.bench(x, part), whole ? acts : -1);
            due.is("FAULT of '" + part + "'", x.fault(), whole ? -1 : n);
        }
    }

    /** Of all bytes behind what is ahead, each that is none of the signs is the FAULT, and each sign isn't. */
    private static void stopsAlone(String ahead, String signs) {
        for (int v = 0; v < 256; v++) {
            HalvingMender x = new HalvingMender();
            int told = Due.bench(x, ahead + (char) v);
            if (signs.indexOf(v) < 0) {
                due.is("bench", told, -1);
                due.is("FAULT of '" + ahead + "' and byte " + v, x.fault(), ahead.length());
            } else {
                due.is("'" + ahead + (char) v + "' goes on", x.fault() == -1 || x.fault() == ahead.length() + 1, true);
            }
        }
    }

    private static void firstByteThatStops() {
        stopsAlone("", "clphsofx=");
        stopsAlone("c1;f;", "clphsofx=");
        stopsAlone("f", ";");
        for (String act : new String[] {"c", "x", "="}) {
            stopsAlone(act, DIGITS + "-");
            stopsAlone(act + "-", DIGITS);
            stopsAlone(act + "0", DIGITS + ";");
            stopsAlone(act + "-123", DIGITS + ";");
            stopsAlone(act + "-1234", ";");
            stopsAlone(act + "1234", ";");
        }
        for (String act : new String[] {"p", "h"}) {
            stopsAlone(act, DIGITS);
            stopsAlone(act + "999", DIGITS + ";");
            stopsAlone(act + "9999", ";");
        }
        for (String act : new String[] {"l", "s", "o"}) {
            stopsAlone(act, DIGITS);
            stopsAlone(act + "123", DIGITS + ",");
            stopsAlone(act + "1234", ",");
            stopsAlone(act + "0,", act.equals("l") ? DIGITS : DIGITS + "-");
            stopsAlone(act + "0,123", DIGITS + ";");
            stopsAlone(act + "0,1234", ";");
        }
        stopsAlone("s0,-", DIGITS);
        stopsAlone("o0,-1234", ";");
    }

    // ---- the ACTS: the last value that is taken, and the first that is not ----

    private static void converts() {
        taken("c0;", 0);
        taken("c15;", 15);
        taken("c16;", 15);
        HalvingMender none = new HalvingMender();
        done(none, "c0;", 0, 0);
        HalvingMender x = four();
        done(x, "c5;c6;", 2, -1);
        due.is("the latest CONVERSION", x.converted(0), 6);
    }

    private static void learns() {
        refused("l0,1;");
        taken("l1,1;", 3);
        taken("l4,1;", 0);
        refused("l5,1;");
        refused("l1,0;");
        taken("l1,8;", 3);
        refused("l1,9;");
        done(new HalvingMender(), "l1,1;", 0, 0);
        done(new HalvingMender(), "l0,1;", 0, 0);
    }

    private static void passes() {
        refused("p0;");
        taken("p1;", 0);
        taken("p100;", 0);
        refused("p101;");
        HalvingMender none = new HalvingMender();
        done(none, "p100;p100;", 2, -1);
        due.is("HOUR", none.is(12), 200);
    }

    private static void heats() {
        taken("h0;", 1);
        taken("h99;", 1);
        refused("h100;");
        HalvingMender none = new HalvingMender();
        done(none, "h99;h100;h0;", 1, 1);
        due.is("HEAT", none.is(11), 99);
    }

    private static void sticks() {
        taken("s0,-1;", 1);
        taken("s3,0;", 1);
        taken("s3,1;", 1);
        refused("s3,2;");
        refused("s3,-2;");
        refused("s4,0;");
        done(new HalvingMender(), "s0,-1;", 0, 0);
    }

    private static void offs() {
        taken("o3,99;", 1);
        refused("o3,100;");
        taken("o3,-7;", 1);
        refused("o3,-8;");
        refused("o0,-1;");
        refused("o4,0;");
        HalvingMender x = Due.of("b1;b200;");
        done(x, "o1,-99;", 1, -1);
        done(x, "o1,-100;", 0, 0);
        due.is("OFF", x.bit(1, 1), -99);
        done(new HalvingMender(), "o0,0;", 0, 0);
    }

    private static void forgetsAndSeeds() {
        taken("f;", 0);
        HalvingMender none = new HalvingMender();
        done(none, "f;x-9999;x9999;", 3, -1);
        due.is("f tells 0 without BITS", none.row(0), 0);
        due.is("x tells 1, not what it was", none.row(2), 1);
        due.is("X", none.is(6), 9999);
    }

    private static void isSo() {
        // nothing was told: even what the BENCH ahead told is none
        for (String v : new String[] {"0", "-1", "1", "-0", "3"}) {
            HalvingMender x = four();
            done(x, "c3;", 1, -1);
            done(x, "=" + v + ";f;", 0, 0);
        }
        for (int v = -1; v <= 5; v++) {
            HalvingMender x = four();
            done(x, "c3;=" + v + ";", v == 3 ? 2 : 1, v == 3 ? -1 : 1);
            due.is("= tells v", x.row(1), v == 3 ? 3 : -1000000);
        }
        done(four(), "c0;=0;=-0;=0000;", 4, -1);
        done(four(), "c3;h1;=3;", 2, 2);
        done(four(), "c3;=3;h1;=1;=1;=3;", 5, 5);
        done(four(), "x5;=1;s0,1;=1;o0,1;=1;p1;=0;h0;=1;f;=0;l4,1;=0;", 14, -1);
    }

    private static void endedByOne() {
        for (int k = 0; k <= 39; k++) {
            HalvingMender x = four();
            String text = "f;".repeat(k) + "h100;" + "h7;".repeat(39 - k);
            done(x, text, k, k);
            due.is("the row ahead of it", x.row(k - 1), k == 0 ? -1000000 : 0);
            due.is("nothing behind it is done", x.is(11), 0);
        }
    }

    private static void rowsOfTheLatest() {
        HalvingMender x = four();
        done(x, "c1;c2;c3;", 3, -1);
        for (int k : new int[] {-1, 3, 39, 40, MIN, MAX}) {
            due.is("row " + k, x.row(k), -1000000);
        }
        for (int k = 0; k < 3; k++) {
            due.is("row " + k, x.row(k), k + 1);
        }
        done(x, "c5;=6;c7;", 1, 1);
        due.is("row 0", x.row(0), 5);
        due.is("no row 1 any more", x.row(1), -1000000);
        done(x, "", 0, -1);
        due.is("no row 0 any more", x.row(0), -1000000);
        done(x, "h100;", 0, 0);
        due.is("refused: no row", x.row(0), -1000000);
    }
}
