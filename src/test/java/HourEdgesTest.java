/** Terms, DRIFT and an HOUR, and promises 5, 29 and 31 to 33: each limit from both sides. */
public final class HourEdgesTest {
    private static final Due due = new Due("HourEdgesTest");
    private static final String THING = "0123456789iswht(-[";
    private static final String SIGNS = "+-*/%";
    /** The least int, as 65536 times 32768 wraps. */
    private static final String LEAST = "4096*16*(4096*8)";

    public static void main(String[] args) {
        empty();
        numbers();
        howManyThings();
        howDeep();
        endsTooEarly();
        firstByteThatStops();
        divisors();
        wraps();
        choices();
        heldToNine();
        heldToNinetyNine();
        heldToOne();
        whatWasAhead();
        howManyHours();
        dueByP();
        dueByHours();
        dueByB();
        planByHours();
        planIsAside();
        planByWeight();
        due.end();
    }

    private static void well(String text, int things) {
        HalvingMender x = new HalvingMender();
        due.is("drift '" + text + "'", Due.drift(x, text), things);
        due.is("FAULT of '" + text + "'", x.fault(), -1);
        due.is("the tape is empty", x.is(8), 0);
    }

    private static void wrong(String text, int place) {
        HalvingMender x = Due.of("b500;b500;");
        Due.drift(x, "3");
        due.is("drift '" + text + "'", Due.drift(x, text), -1);
        due.is("FAULT of '" + text + "'", x.fault(), place);
        due.is("the tape is empty", x.is(8), 0);
        x.pass(1);
        due.is("DRIFT stays", x.bit(0, 1), 3);
    }

    /** What a DRIFT makes of OFF 0 of BIT 1 (SIZE 500) in one HOUR. */
    private static int more(String drift) {
        HalvingMender x = Due.of("b500;b500;");
        x.heat(99);
        Due.drift(x, drift);
        due.is("FAULT of '" + drift + "'", x.fault(), -1);
        x.pass(1);
        return x.bit(1, 1);
    }

    // ---- the text ----

    private static void empty() {
        well("", 0);
        HalvingMender x = Due.of("b500;b500;");
        due.is("at first DRIFT is 0", x.pass(1), 0);
        Due.drift(x, "4");
        x.pass(1);
        due.is("4", x.bit(0, 1), 4);
        Due.drift(x, "");
        due.is("the empty one is 0", x.pass(1), 0);
        due.is("and all stays", x.bit(0, 1), 4);
        due.is("HOUR", x.is(12), 3);
    }

    private static void numbers() {
        well("0", 1);
        well("9999", 1);
        well("0000", 1);
        well("(0001)", 2);
        wrong("12345", 4);
        wrong("00000", 4);
        wrong("(12345)", 5);
        wrong("-99999", 5);
        wrong("1+00001", 6);
        wrong("[12345", 5);
        wrong("1 ", 1);
        wrong(" 1", 0);
        due.is("0009", more("0009"), 9);
        due.is("9999 of 9999", more("[9999=101*99?1:2]"), 1);
    }

    private static void howManyThings() {
        for (int k = 0; k < SIGNS.length(); k++) {
            char sign = SIGNS.charAt(k);
            String forty = "1" + (sign + "1").repeat(39);
            well(forty, 40);
            wrong(forty + sign + "1", 80);
            wrong(forty + sign + "i", 80);
            wrong(forty + sign + "1234", 80);
            wrong(forty + sign + "(1)", 80);
            wrong(forty + sign + "-1", 80);
            wrong(forty + sign + "[1<2?3:4]", 80);
            wrong(forty + sign, 80);
            wrong(forty + sign + "x", 80);
        }
        well("-1+".repeat(19) + "-1", 40);
        wrong("-1+".repeat(19) + "1+-1", 60);
        well("(1)+".repeat(19) + "(1)", 40);
        wrong("(1)+".repeat(20) + "1", 80);
        wrong("(1)+".repeat(19) + "i+(1)", 79);
        well("[1<2?3:4]+".repeat(7) + "[1=2?3:4]", 40);
        wrong("[1<2?3:4]+".repeat(8) + "1", 80);
        wrong("[1<2?3:4]+".repeat(7) + "i+[1=2?3:4]", 79);
        wrong("[1<2?3:4]+".repeat(7) + "i+i+[1=2?3:4]", 79);
        wrong("[1<2?3:4]+".repeat(7) + "i+i+i+i+[1=2?3:4]", 79);
        wrong("[1<2?3:4]+".repeat(7) + "i+i+i+i+i+[1=2?3:4]", 80);
        due.is("forty are reckoned", more("[7" + "+1".repeat(31) + "=38?5:[1<2?6:7]]"), 5);
        due.is("forty are reckoned one behind the other", more("1" + "-1".repeat(39)), -9);
        // those of a FAULT do not count for the next text
        HalvingMender x = new HalvingMender();
        Due.drift(x, "1" + "+1".repeat(40));
        due.is("forty again", Due.drift(x, "1" + "+1".repeat(39)), 40);
    }

    private static void howDeep() {
        well("(".repeat(7) + "i" + ")".repeat(7), 8);
        wrong("(".repeat(8) + "i" + ")".repeat(8), 8);
        wrong("(".repeat(8), 8);
        wrong("(".repeat(9), 8);
        well("-".repeat(7) + "i", 8);
        wrong("-".repeat(8) + "i", 8);
        wrong("-".repeat(9) + "i", 8);
        well("-(".repeat(3) + "-i" + ")".repeat(3), 8);
        wrong("-(".repeat(4) + "i" + ")".repeat(4), 8);
        // in each of the four SUMS of a choice
        well("[".repeat(7) + "i" + "<2?3:4]".repeat(7), 29);
        wrong("[".repeat(8) + "i" + "<2?3:4]".repeat(8), 8);
        well("[1=".repeat(7) + "i" + "?3:4]".repeat(7), 29);
        wrong("[1=".repeat(7) + "[1=2?3:4]" + "?3:4]".repeat(7), 22);
        well("[1<2?".repeat(7) + "i" + ":4]".repeat(7), 29);
        wrong("[1<2?".repeat(7) + "(i)" + ":4]".repeat(7), 36);
        well("[1=2?3:".repeat(7) + "i" + "]".repeat(7), 29);
        wrong("[1=2?3:".repeat(7) + "-i" + "]".repeat(7), 50);
        // the eighth beside another one, not within it
        well("(".repeat(7) + "i+i*i" + ")".repeat(7), 10);
        well("(".repeat(6) + "(i)*(i)" + ")".repeat(6) + "-" + "-".repeat(7) + "i", 18);
        wrong("(".repeat(7) + "i+(i)" + ")".repeat(7), 10);
        wrong("(".repeat(7) + "i*-i" + ")".repeat(7), 10);
        due.is("eight deep is reckoned", more("(".repeat(7) + "9" + ")".repeat(7)), 9);
        due.is("seven turns", more("-".repeat(7) + "4"), -4);
        due.is("seven choices", more("[0<1?".repeat(7) + "6" + ":4]".repeat(7)), 6);
        due.is("seven choices, each what is behind :", more("[1<1?4:".repeat(7) + "6" + "]".repeat(7)), 6);
    }

    private static void endsTooEarly() {
        String text = "[i*2<-(w+13)?t%4:h/0]-[s=0?-7:1234]";
        for (int n = 1; n <= text.length(); n++) {
            String part = text.substring(0, n);
            if (n == 21 || n == text.length()) {
                well(part, n == 21 ? 11 : 17);
            } else {
                wrong(part, n);
            }
        }
    }

    /** Of all bytes behind what is ahead, each that is none of the signs is the FAULT, and each sign isn't. */
    private static void stopsAlone(String ahead, String signs) {
        for (int v = 0; v < 256; v++) {
            HalvingMender x = new HalvingMender();
            int told = Due.drift(x, ahead + (char) v);
            if (signs.indexOf(v) < 0) {
                due.is("drift", told, -1);
                due.is("FAULT of '" + ahead + "' and byte " + v, x.fault(), ahead.length());
            } else {
                due.is("'" + ahead + (char) v + "' goes on", x.fault() == -1 || x.fault() == ahead.length() + 1, true);
            }
        }
    }

    private static void firstByteThatStops() {
        for (String ahead : new String[] {"", "i+", "i-", "i*", "i/", "i%", "-", "--", "(", "((", "(-", "[", "[(", "[i<",
            "[i=", "[i<i?", "[i=i?", "[i<i?i:", "i+(i*", "[i<i?i:i]%"}) {
            stopsAlone(ahead, THING);
        }
        String digits = "0123456789";
        stopsAlone("1", digits + SIGNS);
        stopsAlone("123", digits + SIGNS);
        for (String ahead : new String[] {"1234", "i", "s", "w", "h", "t", "-i", "(i)", "-(i)", "[i<i?i:i]", "i+i",
            "[(i)=i?i:i]"}) {
            stopsAlone(ahead, SIGNS);
        }
        stopsAlone("(i", SIGNS + ")");
        stopsAlone("((i)", SIGNS + ")");
        stopsAlone("([i=i?i:i]", SIGNS + ")");
        stopsAlone("[(i", SIGNS + ")");
        stopsAlone("[i", SIGNS + "<=");
        stopsAlone("[i+1234", SIGNS + "<=");
        stopsAlone("[i<i", SIGNS + "?");
        stopsAlone("[i=i", SIGNS + "?");
        stopsAlone("[i<i?i", SIGNS + ":");
        stopsAlone("[i=i?i", SIGNS + ":");
        stopsAlone("[i<i?i:i", SIGNS + "]");
        stopsAlone("[i<i?[i=i?i:i]", SIGNS + ":");
    }

    // ---- what it tells ----

    private static void is(String text, int v) {
        String shown = v < 0 ? "-" + -v : "" + v;
        due.is(text + " is " + v, more("[" + text + "=" + shown + "?5:8]"), 5);
        due.is(text + " is not more", more("[" + shown + "<" + text + "?5:8]"), 8);
        due.is(text + " is not less", more("[" + text + "<" + shown + "?5:8]"), 8);
    }

    private static void divisors() {
        is("7/0", 0);
        is("-7/0", 0);
        is("0/0", 0);
        is("7%0", 0);
        is("-7%0", 0);
        is("9/(3-3)*5+2", 2);
        is("9%(3-3)+2", 2);
        is("7/2", 3);
        is("-7/2", -3);
        is("7/-2", -3);
        is("-7/-2", 3);
        is("-1/2", 0);
        is("7%3", 1);
        is("-7%3", -1);
        is("7%-3", 1);
        is("-7%-3", -1);
        is("6%3", 0);
        is("-6%3", 0);
        is("3/7", 0);
        is("3%7", 3);
        is("7/1", 7);
        is("7%1", 0);
    }

    private static void wraps() {
        String most = "(" + LEAST + "-1)";
        due.is("the least is below 0", more("[" + LEAST + "<0?1:2]"), 1);
        due.is("1 less is above 0", more("[0<" + most + "?1:2]"), 1);
        due.is("the most and 1 is the least", more("[" + most + "+1=" + LEAST + "?1:2]"), 1);
        due.is("the least turned is itself", more("[-(" + LEAST + ")=" + LEAST + "?1:2]"), 1);
        due.is("by -1 it is itself", more("[" + LEAST + "/-1=" + LEAST + "?1:2]"), 1);
        due.is("times -1 it is itself", more("[" + LEAST + "*-1=" + LEAST + "?1:2]"), 1);
        due.is("the rest by -1 is 0", more("[" + LEAST + "%-1=0?1:2]"), 1);
        due.is("the most by 2 times is -2", more("[" + most + "*2=-2?1:2]"), 1);
        due.is("the least is below the most", more("[" + LEAST + "<" + most + "?1:2]"), 1);
        due.is("the most isn't below the least", more("[" + most + "<" + LEAST + "?1:2]"), 2);
        due.is("0 less the least is below 0", more("[0-" + LEAST + "<0?1:2]"), 1);
        due.is("2 to the 32nd is 0", more("[4096*4096*256=0?1:2]"), 1);
        due.is("the least is held to -9", more(LEAST), -9);
        due.is("the most is held to 9", more(LEAST + "-1"), 9);
    }

    private static void choices() {
        due.is("<, just not", more("[3<3?1:2]"), 2);
        due.is("<, just", more("[2<3?1:2]"), 1);
        due.is("<, not", more("[4<3?1:2]"), 2);
        due.is("=, so", more("[3=3?1:2]"), 1);
        due.is("=, 1 less", more("[2=3?1:2]"), 2);
        due.is("=, 1 more", more("[4=3?1:2]"), 2);
        due.is("nothing of the other side", more("[1=1?3:1/0]+[1=2?1/0:4]"), 7);
    }

    // ---- an HOUR ----

    private static void heldToNine() {
        for (int v = -12; v <= 12; v++) {
            due.is("held to -9 and 9: " + v, more("" + v), Math.max(-9, Math.min(9, v)));
        }
        due.is("9999", more("9999"), 9);
        due.is("-9999", more("-9999"), -9);
    }

    private static void heldToNinetyNine() {
        for (int off = 88; off <= 99; off++) {
            for (int v = 0; v <= 10; v++) {
                oneHour(500, off, v, Math.min(99, off + Math.min(9, v)));
                oneHour(500, -off, -v, Math.max(-99, -off - Math.min(9, v)));
            }
        }
        oneHour(500, 99, -10, 90);
        oneHour(500, -99, 10, -90);
    }

    private static void heldToOne() {
        for (int size : new int[] {1, 2, 9, 10, 11, 50, 98, 99, 100, 101, 102}) {
            int least = Math.max(-99, 1 - size);
            for (int more = 0; more <= 9; more++) {
                oneHour(size, least, -more, least);
                oneHour(size, least + more, -9, least);
                oneHour(size, least + 10, -9, least + 1);
            }
        }
    }

    private static void oneHour(int size, int off, int v, int next) {
        HalvingMender x = Due.of("b1;b" + size + ";");
        String what = "SIZE " + size + ", OFF " + off + ", DRIFT " + v + ": ";
        due.is(what + "off", x.off(1, off), true);
        Due.drift(x, "[i=1?" + v + ":0]");
        due.is(what + "pass", x.pass(1), next == off ? 0 : 1);
        due.is(what + "OFF", x.bit(1, 1), next);
        due.is(what + "WORTH", x.bit(1, 2), size);
    }

    private static void whatWasAhead() {
        HalvingMender x = Due.of("b500;b600;");
        x.heat(2);
        Due.drift(x, "t");
        due.is("HOUR 0 is ahead", x.pass(1), 0);
        due.is("HOUR 1 is", x.pass(1), 2);
        due.is("by 1", x.bit(0, 1), 1);
        Due.drift(x, "[w=501?3:[w=601?4:[w=504?5:9]]]");
        due.is("each BIT by its own WEIGHT ahead", x.pass(1), 2);
        due.is("BIT 0", x.bit(0, 1), 4);
        due.is("BIT 1", x.bit(1, 1), 5);
        Due.drift(x, "[s=500?h:i]");
        x.pass(1);
        due.is("BIT 0 by HEAT", x.bit(0, 1), 6);
        due.is("BIT 1 by itself", x.bit(1, 1), 6);
        due.is("HOUR", x.is(12), 4);
    }

    private static void howManyHours() {
        for (int n : new int[] {1, 2, 99, 100}) {
            HalvingMender x = Due.of("b500;b500;");
            Due.drift(x, "1");
            due.is("pass", x.pass(n), Math.min(n, 99) * 2);
            due.is("HOUR", x.is(12), n);
            due.is("OFF", x.bit(1, 1), Math.min(n, 99));
        }
        for (int n : new int[] {0, -1, 101, Integer.MIN_VALUE, Integer.MAX_VALUE}) {
            HalvingMender x = Due.of("b500;b500;");
            Due.drift(x, "1");
            due.is("pass", x.pass(n), -1);
            due.is("no HOUR", x.is(12), 0);
            due.is("OFF", x.bit(1, 1), 0);
        }
        HalvingMender none = new HalvingMender();
        Due.drift(none, "9");
        due.is("without BITS none changes", none.pass(100), 0);
        due.is("HOURS go by", none.is(12), 100);
    }

    // ---- DUE ----

    private static void dueByP() {
        HalvingMender x = Due.of("b1;b2;b4;");
        // 9 is 7: OFF BY 2
        due.is("OFF BY 2 is more than 1", x.due(1, 9), 0);
        due.is("not more than 2", x.due(2, 9), -1);
        due.is("not more than the greatest", x.due(Integer.MAX_VALUE, 9), -1);
        due.is("0 is not more than 0", x.due(0, 7), -1);
        due.is("1 is", x.due(0, 8), 0);
        due.is("p -1", x.due(-1, 9), -2);
        due.is("p least", x.due(Integer.MIN_VALUE, 9), -2);
    }

    private static void dueByHours() {
        for (int hour : new int[] {0, 1, 2, 50, 98, 99, 100, 150}) {
            HalvingMender x = Due.of("b1;b2;b4;");
            Due.drift(x, "[t=" + hour + "?1:0]");
            // behind that HOUR all are 1 heavier: 1 is nothing
            due.is("OFF in HOUR " + hour, x.due(0, 7), hour < 100 ? hour + 1 : -1);
            due.is("HOUR", x.is(12), 0);
            due.is("OFF", x.bit(0, 1), 0);
            x.pass(2);
            int left = hour - 2;
            due.is("two HOURS on", x.due(0, 7), left < 0 ? 0 : left < 100 ? left + 1 : -1);
        }
    }

    private static void dueByB() {
        HalvingMender x = Due.of("b1;b2;");
        due.is("b 0: x 0 alone", x.due(0, 0), -1);
        due.is("b 3", x.due(0, 3), -1);
        due.is("b 4", x.due(0, 4), 0);
        due.is("b -1", x.due(0, -1), -2);
        due.is("2000 x", x.due(1995, 1999), 0);
        due.is("2000 x", x.due(1996, 1999), -1);
        due.is("2001 x", x.due(0, 2000), -2);
        x.set(4, 50);
        due.is("2000 x by 50", x.due(99949, 99999), 0);
        due.is("1999 times 50", x.due(99950, 99999), -1);
        due.is("2001 x by 50", x.due(0, 100000), -2);
        x.set(4, 64);
        due.is("b 100000", x.due(99967, 100000), 0);
        due.is("1562 times 64", x.due(99968, 100000), -1);
        due.is("b 100001", x.due(0, 100001), -2);
        due.is("b greatest", x.due(0, Integer.MAX_VALUE), -2);
        due.is("b least", x.due(0, Integer.MIN_VALUE), -2);
    }

    // ---- a PLAN ----

    private static void planByHours() {
        for (int hour : new int[] {0, 1, 20, 37, 38, 39, 40}) {
            for (int n : new int[] {1, 2, 21, 38, 39, 40}) {
                HalvingMender x = Due.of("b1;b2;b4;b8;");
                Due.drift(x, "[t=" + hour + "?[i=3?-1:0]:0]");
                // 7 is MISSING behind that HOUR, so ahead of the next; learnt once it is there
                boolean seen = hour + 1 < n;
                String what = "lighter in HOUR " + hour + ", " + n + " HOURS: ";
                due.is(what + "how often", x.plan(3, n, 0), seen ? 1 : 0);
                due.is(what + "first", x.plan(3, n, 1), seen ? hour + 1 : -1);
                due.is(what + "in vain", x.plan(3, n, 2), 0);
                // from BITS on nothing is learnt
                due.is(what + "how often, in vain", x.plan(4, n, 0), seen ? n - hour - 1 : 0);
                due.is(what + "in vain", x.plan(4, n, 2), seen ? n - hour - 1 : 0);
            }
        }
        HalvingMender x = Due.of("b1;b2;b4;b8:-1;");
        due.is("ahead of the first HOUR", x.plan(3, 1, 1), 0);
        due.is("once", x.plan(3, 1, 0), 1);
        due.is("once, of 40", x.plan(3, 40, 0), 1);
        due.is("40 times in vain", x.plan(4, 40, 2), 40);
        int[][] others = {{0, 1, 0}, {5, 1, 0}, {3, 0, 0}, {3, 41, 0}, {3, 1, -1}, {3, 1, 3}};
        for (int[] o : others) {
            due.is("others", x.plan(o[0], o[1], o[2]), -1);
        }
        due.is("k 1", x.plan(1, 1, 0), 1);
    }

    /** ON PAPER: neither NOISE nor BAND and RULE; all else as it is, and stays so. */
    private static void planIsAside() {
        for (int rule = 0; rule <= 3; rule++) {
            HalvingMender x = Due.of("b1;b2;b4;b8;d50;n20;r" + rule + ";");
            Due.drift(x, "[i=3?[w<5?0:-1]:0]");
            // BIT 3 is 8, 7, 6, 5, 4, 4, ..: each time it is learnt once, and whole
            due.is("how often", x.plan(3, 40, 0), 4);
            due.is("first", x.plan(3, 40, 1), 1);
            due.is("in vain", x.plan(3, 40, 2), 0);
            due.is("X is aside", x.is(6), 1);
            due.is("HOUR is aside", x.is(12), 0);
            due.is("OFF is aside", x.bit(3, 1), 0);
            due.is("WORTH is aside", x.bit(3, 2), 8);
            due.is("NOISE as it was", x.is(4), 20);
            due.is("RULE as it was", x.is(3), rule);
            due.is("DUE is ON PAPER, too", x.due(0, 15), 1);
            due.is("X is aside", x.is(6), 1);
        }
    }

    private static void planByWeight() {
        due.is("1999", Due.of("b1;b1998;").plan(1, 1, 2), 0);
        due.is("2000", Due.of("b1;b1999;").plan(1, 1, 2), -1);
        due.is("1999 by 64, cut: more than 100000 together", Due.of("b9999;".repeat(12) + "g60;").plan(12, 1, 2), 1);
        due.is("2033 by 59", Due.of("b9999;".repeat(12) + "g59;").plan(12, 1, 2), -1);
        // a HISTOGRAM from 0 up to all SIZES together (12), both too
        due.is("8 is reached at 12 alone", Due.of("b1;b1;b2;b8;o-4;").plan(4, 1, 0), 1);
        due.is("8 is reached at 13", Due.of("b1;b1;b2;b8;o-5;").plan(4, 1, 0), 0);
        due.is("0 is 7 yet", Due.of("b1;b1;b2;b8;o7;").plan(4, 1, 0), 1);
        due.is("0 is 8", Due.of("b1;b1;b2;b8;o8;").plan(4, 1, 0), 0);
    }
}
