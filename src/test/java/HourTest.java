/** Promises 29 and 31 to 33: drift, pass, due, plan. */
public final class HourTest {
    private static final Due due = new Due("HourTest");

    public static void main(String[] args) {
        reckoned();
        wraps();
        things();
        faults();
        faultLeavesAll();
        pass();
        held();
        due();
        dueEdges();
        plan();
        planStartsAsItIs();
        planEdges();
        due.end();
    }

    /** What a DRIFT tells of BIT 2 (SIZE 7, WEIGHT 10, HEAT 6, HOUR 4), by whether it is v. */
    private static void reckoned() {
        String[] texts = {"5", "i", "s", "w", "h", "t", "1+2*3", "(1+2)*3", "9-3-2", "9-(3-2)", "24/2/3", "7%4*2",
            "-7/2", "-7%4", "7/-2", "7%-4", "-7%-4", "7/0", "7%0", "--3", "-3+5", "-(3+5)", "2--3", "2*-3", "[1<2?3:4]",
            "[2<2?3:4]", "[2=2?3:4]", "[1=2?3:4]", "[i=2?[t<h?s:w]:0]", "[1+1<3*1?2+2:9]*2", "(((4)))", "0012",
            "9999*9999", "i*s+w%h-t/i", "-i*-i", "10-2*3+4", "[w<s?1:2]+[s<w?10:20]", "-[1<2?3:4]", "8/3*3", "8*3/3",
            "-1*0", "[-1<0?1:0]"};
        int[] told = {5, 2, 7, 10, 6, 4, 7, 9, 4, 8, 4, 6,
            -3, -3, -3, 3, -3, 0, 0, 3, 2, -8, 5, -6, 3,
            4, 3, 4, 7, 8, 4, 12,
            99980001, 16, 4, 8, 12, -3, 6, 8,
            0, 1};
        for (int n = 0; n < texts.length; n++) {
            due.is(texts[n], isTold(texts[n], told[n]), true);
            due.is(texts[n] + " is not one more", isTold(texts[n], told[n] + 1), false);
        }
    }

    /** v as a product of numbers, as a DRIFT's numbers have 4 digits. */
    private static String shown(int v) {
        String sign = v < 0 ? "-" : "";
        int far = Math.abs(v);
        return far < 10000 ? sign + far : "(" + sign + far / 10000 + "*10*1000" + (v < 0 ? "-" : "+") + far % 10000 + ")";
    }

    private static boolean isTold(String text, int v) {
        HalvingMender x = Due.of("b500;b500;b7:3;");
        x.heat(6);
        x.pass(4);
        Due.drift(x, "[" + text + "=" + shown(v) + "?5:8]");
        due.is("FAULT of " + text, x.fault(), -1);
        x.pass(1);
        return x.bit(2, 1) == 3 + 5;
    }

    private static void wraps() {
        // 65536 * 32768 is the least int; it wraps, and its turned sign is itself
        due.is("wraps", isTold("[4096*16*(4096*8)<0?1:2]", 1), true);
        due.is("least by -1", isTold("[4096*16*(4096*8)/-1<0?1:2]", 1), true);
        due.is("rest of least by -1", isTold("4096*16*(4096*8)%-1", 0), true);
        due.is("turned least", isTold("[-(4096*16*(4096*8))<0?1:2]", 1), true);
        due.is("least less 1", isTold("[0<4096*16*(4096*8)-1?1:2]", 1), true);
        due.is("wraps to 0", isTold("4096*4096*256", 0), true);
    }

    private static void things() {
        HalvingMender x = Due.of("b500;b500;");
        due.is("empty", Due.drift(x, ""), 0);
        due.is("empty is well", x.fault(), -1);
        due.is("one", Due.drift(x, "1234"), 1);
        due.is("two", Due.drift(x, "-1"), 2);
        due.is("three", Due.drift(x, "(i+s)"), 3);
        due.is("five", Due.drift(x, "[1<2?3:4]"), 5);
        String forty = "1" + "+1".repeat(39);
        due.is("forty", Due.drift(x, forty), 40);
        due.is("forty-one", Due.drift(x, forty + "+1"), -1);
        due.is("at its first byte", x.fault(), 80);
        due.is("what would be one too much", Due.drift(x, forty + "+"), -1);
        due.is("at the end", x.fault(), 80);
        x.pass(1);
        due.is("forty told 40, held to 9", x.bit(0, 1), 9);
        due.is("8 within one another", Due.drift(x, "(((((((9)))))))"), 8);
        due.is("9 within one another", Due.drift(x, "((((((((9))))))))"), -1);
        due.is("at its first byte", x.fault(), 8);
        due.is("8 signs", Due.drift(x, "-------9"), 8);
        due.is("9 signs", Due.drift(x, "--------9"), -1);
        due.is("at its first byte", x.fault(), 8);
        due.is("of all kinds", Due.drift(x, "[1<[0=-(-[1=1?(4):3])?2:3]?4:5]"), 17);
        due.is("too deep of all kinds", Due.drift(x, "[1<[0=-(-[1=1?(-4):3])?2:3]?4:5]"), -1);
        due.is("at its first byte", x.fault(), 16);
        due.is("beside one another", Due.drift(x, "((((((1))))))+((((((1))))))"), 14);
        // forty numbers stand open at once: 1 + (2 + ..) is not that deep, but a choice holds three
        due.is("many stand open", Due.drift(x, "[1<1?1:[1<1?1:[1<1?1:[1<1?1:[1<1?1:[1<1?1:[1<1?1:7]]]]]]]"), 29);
        x.pass(1);
        due.is("many stand open, 7 is told", x.bit(1, 1), 16);
    }

    private static void faults() {
        String[] texts = {"x", "12345", "(i", "i+", "[i>2?1:2]", "i i", "ii", "i(", "()", "(1))", "1)", "[1<2?3]",
            "[1<2:3?4]", "[1<2?3:4", "[1?2:3]", "[1<2<3?4:5]", "[1<2=3?4:5]", "+1", "1+*2", "-", "[", "(", "1]", "i;",
            "1*", "1**2", "[1=2?3:4]]", "S", "1:", "1?", "1<2", "1=2", "(1]", "1-", " 1", "0x", "[(1<2)?3:4]"};
        int[] places = {0, 4, 2, 2, 2, 1, 1, 1, 1, 3, 1, 6,
            4, 8, 2, 4, 4, 0, 2, 1, 1, 1, 1, 1,
            2, 2, 9, 0, 1, 1, 1, 1, 2, 2, 0, 1, 3};
        HalvingMender x = new HalvingMender();
        for (int n = 0; n < texts.length; n++) {
            due.is("drift '" + texts[n] + "'", Due.drift(x, texts[n]), -1);
            due.is("FAULT of '" + texts[n] + "'", x.fault(), places[n]);
            due.is("the tape is empty", x.is(8), 0);
        }
    }

    private static void faultLeavesAll() {
        HalvingMender x = Due.of("b500;b500;");
        Due.drift(x, "3");
        due.is("the tape is empty", x.is(8), 0);
        x.convert(1);
        due.is("a FAULT", Due.drift(x, "4+"), -1);
        x.pass(1);
        due.is("DRIFT stays", x.bit(0, 1), 3);
        due.is("the CONVERSION stays", x.converted(2), 1);
        Due.drift(x, "");
        x.pass(1);
        due.is("an empty DRIFT is 0", x.bit(0, 1), 3);
        due.is("HOUR goes on", x.is(12), 2);
    }

    private static void pass() {
        HalvingMender x = Due.of("b5;b50;b500;");
        due.is("DRIFT 0", x.pass(100), 0);
        due.is("HOUR", x.is(12), 100);
        due.is("n 0", x.pass(0), -1);
        due.is("n 101", x.pass(101), -1);
        due.is("n -1", x.pass(-1), -1);
        due.is("HOUR stays", x.is(12), 100);
        Due.drift(x, "[t%2=0?i:0]");
        // HOURS 100, 101, 102: i, 0, i
        due.is("two BITS, two HOURS", x.pass(3), 4);
        due.is("OFF 0", x.bit(0, 1), 0);
        due.is("OFF 1", x.bit(1, 1), 2);
        due.is("OFF 2", x.bit(2, 1), 4);
        due.is("WORTHS stay", x.bit(2, 2), 500);
        Due.drift(x, "w/100");
        x.pass(1);
        due.is("by WEIGHT", x.bit(2, 1), 9);
        HalvingMender none = new HalvingMender();
        Due.drift(none, "1");
        due.is("without BITS", none.pass(2), 0);
        due.is("HOURS go by", none.is(12), 2);
    }

    private static void held() {
        HalvingMender x = Due.of("b5;b500;");
        Due.drift(x, "-10");
        due.is("to WEIGHT 1, and by -9", x.pass(1), 2);
        due.is("WEIGHT 1", x.bit(0, 1), -4);
        due.is("by -9", x.bit(1, 1), -9);
        due.is("ten HOURS, one BIT", x.pass(11), 10);
        due.is("-99", x.bit(1, 1), -99);
        Due.drift(x, "10");
        due.is("both", x.pass(1), 2);
        due.is("by 9", x.bit(1, 1), -90);
        due.is("by 9", x.bit(0, 1), 5);
        x.pass(30);
        due.is("99", x.bit(0, 1), 99);
        due.is("99", x.bit(1, 1), 99);
        due.is("none changes", x.pass(1), 0);
        Due.drift(x, "9");
        x.off(1, 0);
        x.pass(1);
        due.is("9 is not held", x.bit(1, 1), 9);
    }

    private static void due() {
        HalvingMender x = Due.of("b1;b2;b4;b8;");
        Due.drift(x, "i/3");
        // BIT 3 is 1 heavier each HOUR: at h HOURS, 8 + h less 1 is 7: OFF BY h up to 15
        due.is("more than 0", x.due(0, 15), 1);
        due.is("more than 3", x.due(3, 15), 4);
        due.is("more than 7", x.due(7, 15), 8);
        due.is("never more than 8 up to 15", x.due(8, 15), -1);
        due.is("up to 7 never", x.due(0, 7), -1);
        due.is("up to 8", x.due(0, 8), 1);
        due.is("up to 25: at once", x.due(9, 25), 0);
        due.is("it is aside", x.bit(3, 1), 0);
        due.is("HOUR is aside", x.is(12), 0);
        x.set(4, 4);
        // x 0, 4, 8, 12: by STEP 4 CODES 0, 1, 2, 3; 8 + 1: 8 is 7, CODE 2 still (7.5); 12 + 1: 11
        due.is("by STEP", x.due(0, 12), -1 + dueByHand(4));
        x.set(4, 1);
        Due.drift(x, "[t<99?0:1]");
        due.is("behind 100 HOURS", x.due(0, 15), 100);
        Due.drift(x, "[t<100?0:1]");
        due.is("behind 101 HOURS", x.due(0, 15), -1);
        x.stick(3, 0);
        due.is("as it is, STUCK", x.due(7, 15), 0);
    }

    /** One more than the HOURS until a CODE by a STEP is OFF BY more than 0, with BIT 3 one heavier each HOUR. */
    private static int dueByHand(int step) {
        for (int hours = 0; hours <= 100; hours++) {
            for (int x = 0; x <= 12; x += step) {
                int top = 8 + hours;
                int sum = x >= top ? 8 + Math.min(7, x - top) : Math.min(7, x);
                if ((sum * 2 + step) / (step * 2) * step != x) {
                    return hours + 1;
                }
            }
        }
        return 0;
    }

    private static void dueEdges() {
        HalvingMender x = Due.of("b1;b2;");
        due.is("p -1", x.due(-1, 3), -2);
        due.is("b -1", x.due(0, -1), -2);
        due.is("b 0", x.due(0, 0), -1);
        due.is("2000 x", x.due(0, 1999), 0);
        due.is("2001 x", x.due(0, 2000), -2);
        due.is("p greatest", x.due(Integer.MAX_VALUE, 1999), -1);
        x.set(4, 3);
        due.is("2000 x by 3", x.due(0, 5999), 0);
        due.is("2001 x by 3", x.due(0, 6000), -2);
        due.is("no BITS", new HalvingMender().due(0, 0), -2);
    }

    private static void plan() {
        HalvingMender x = Due.of("b1;b2;b4;b8;");
        due.is("none", x.plan(1, 40, 0), 0);
        due.is("none first", x.plan(1, 40, 1), -1);
        due.is("none in vain", x.plan(1, 40, 2), 0);
        // each HOUR BIT 3 is 1 lighter, 4 at least: 8, 7, 6, .. then one WORTH of 8 at WEIGHT 7 leaves 7 out
        Due.drift(x, "[i=3?[w<5?0:-1]:0]");
        // learnt once at 7 it is whole (7); at 6, WORTH 7 leaves 6 out, and so on, down to 4
        due.is("learnt at 7, 6, 5, 4", x.plan(3, 10, 0), 4);
        due.is("first in HOUR 1", x.plan(3, 10, 1), 1);
        due.is("never in vain", x.plan(3, 10, 2), 0);
        due.is("two HOURS", x.plan(3, 2, 0), 1);
        due.is("one HOUR", x.plan(3, 1, 0), 0);
        due.is("one HOUR, none first", x.plan(3, 1, 1), -1);
        // from BITS on none is learnt: all in vain
        due.is("in vain: how often", x.plan(4, 10, 0), 9);
        due.is("in vain", x.plan(4, 10, 2), 9);
        due.is("aside: OFF", x.bit(3, 1), 0);
        due.is("aside: HOUR", x.is(12), 0);
        due.is("aside: WORTH", x.bit(3, 2), 8);
        due.is("aside: X", x.is(6), 1);
        x.set(3, 20);
        x.set(1, 50);
        x.set(2, 2);
        due.is("ON PAPER", x.plan(3, 10, 0), 4);
        due.is("ON PAPER, aside: X", x.is(6), 1);
        due.is("aside: NOISE", x.is(4), 20);
        due.is("aside: RULE", x.is(3), 2);
    }

    private static void planStartsAsItIs() {
        HalvingMender x = Due.of("b1;b2;b4;b8:-1;");
        due.is("as it is: at once", x.plan(3, 1, 1), 0);
        x.learn(3, 1);
        due.is("as it is: learnt", x.plan(3, 1, 1), -1);
        x.stick(0, 0);
        due.is("as it is: STUCK", x.plan(3, 5, 2), 5);
        HalvingMender y = Due.of("b1;b2;b4;b8;");
        y.pass(7);
        Due.drift(y, "[i=3?[t=9?-1:0]:0]");
        due.is("HOUR as it is", y.plan(3, 10, 1), 3);
    }

    private static void planEdges() {
        HalvingMender x = Due.of("b1;b2;");
        int[][] wrong = {{0, 1, 0}, {3, 1, 0}, {1, 0, 0}, {1, 41, 0}, {1, 1, 3}, {1, 1, -1}};
        for (int[] w : wrong) {
            due.is("others", x.plan(w[0], w[1], w[2]), -1);
        }
        due.is("k is BITS, n 40", x.plan(2, 40, 0), 0);
        due.is("no BITS", new HalvingMender().plan(1, 1, 0), -1);
        due.is("2000", Due.of("b1;b1999;").plan(1, 1, 0), -1);
        due.is("1999", Due.of("b1;b1998;").plan(1, 1, 0), 1);
        due.is("4000 by 2", Due.of("b1;b3999;g2;").plan(1, 1, 0), -1);
        due.is("3999 by 2", Due.of("b1;b3998;g2;").plan(1, 1, 0), 1);
    }
}
