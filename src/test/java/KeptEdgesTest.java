import java.util.Map;
import java.util.Set;

/** Terms, KEPT, SEEN and FAULTS, and promises 37, 41 to 43, 47 and 48: each limit from both sides. */
public final class KeptEdgesTest {
    private static final Due due = new Due("KeptEdgesTest");
    private static final int MIN = Integer.MIN_VALUE;
    private static final int MAX = Integer.MAX_VALUE;

    public static void main(String[] args) {
        threeKept();
        nothingKept();
        whatIsKept();
        whatIsNotKept();
        keptWithoutBits();
        apartFromTo();
        apartTold();
        eightSeen();
        farSeen();
        wipe();
        nothingSeen();
        allSeen();
        stuckFaults();
        offFaults();
        due.end();
    }

    // ---- KEPT ----

    private static void threeKept() {
        HalvingMender x = new HalvingMender();
        for (int i = 0; i <= 2; i++) {
            Due.text(x, "b" + (i + 1) + ";b9;");
            due.is("keep(" + i + ")", x.keep(i), true);
        }
        for (int i : new int[] {-1, 3, MIN, MAX}) {
            due.is("keep(" + i + ")", x.keep(i), false);
            due.is("back(" + i + ")", x.back(i), false);
        }
        Due.text(x, "b7;b8;");
        for (int i : new int[] {2, 0, 1, 0}) {
            due.is("back(" + i + ")", x.back(i), true);
            due.is("SIZE", x.bit(0, 0), i + 1);
        }
        // KEPT anew: that one alone is another
        Due.text(x, "b5;b5;");
        x.keep(1);
        int[] sizes = {1, 5, 3};
        for (int i = 0; i <= 2; i++) {
            x.back(i);
            due.is("SIZE", x.bit(0, 0), sizes[i]);
        }
    }

    private static void nothingKept() {
        for (int i = 0; i <= 2; i++) {
            HalvingMender x = new HalvingMender();
            due.is("nothing KEPT", x.back(i), false);
            due.is("nothing KEPT", x.apart(i, 0, 1, 0), -1000000);
            Due.text(x, "b1;b2;");
            x.convert(3);
            for (int k = 0; k <= 2; k++) {
                if (k != i) {
                    x.keep(k);
                }
            }
            due.is("nothing KEPT there", x.back(i), false);
            due.is("nothing KEPT there", x.apart(i, 0, 1, 0), -1000000);
            due.is("the CONVERSION stays", x.converted(0), 3);
            due.is("all stays", x.is(0), 2);
            x.keep(i);
            due.is("KEPT now", x.back(i), true);
            due.is("KEPT now", x.apart(i, 0, 1, 0), 0);
        }
    }

    /** Each of what is KEPT, made another behind keep(). */
    private static void whatIsKept() {
        String[] changes = {"off(0, 3)", "stick(1, 1)", "learn(1, 1)", "set(0, 9)", "set(1, 9)", "set(2, 1)", "set(3, 9)",
            "set(4, 9)", "seed(9)", "heat(9)", "pass(3)", "see(9, 9)", "wipe()", "draw(3, 50)", "convert(7)"};
        for (String change : changes) {
            HalvingMender x = Calls.full();
            x.set(3, 0);
            x.keep(2);
            x.see(1, 1);
            x.back(2);
            Map<String, Long> was = Calls.shown(x);
            Calls.ask(x, change);
            due.is("back", x.back(2), true);
            Calls.stays(due, change + " and back(2)", x, was, Set.of());
        }
        HalvingMender x = Due.of("b500;b500;");
        Due.drift(x, "3");
        x.keep(0);
        Due.drift(x, "5");
        x.keep(1);
        x.back(0);
        x.pass(1);
        due.is("DRIFT of KEPT 0", x.bit(0, 1), 3);
        x.back(1);
        x.pass(1);
        due.is("DRIFT of KEPT 1", x.bit(0, 1), 5);
        x.back(1);
        due.is("KEPT 1 stays as it was", x.bit(0, 1), 0);
    }

    /** The CONVERSION, the tape, the FAULT, what was written and the BENCH. */
    private static void whatIsNotKept() {
        HalvingMender x = Due.of("b1;b2;");
        x.convert(3);
        x.write();
        x.keep(0);
        due.is("keep leaves the CONVERSION", x.converted(0), 3);
        x.convert(1);
        x.write();
        Due.bench(x, "h5;f;=9;");
        Due.text(x, "b1;b");
        Due.tape(x, "b7;");
        x.back(0);
        due.is("no CONVERSION was", x.converted(0), -1000000);
        due.is("no DECISION", x.decision(0, 0), -1000000);
        due.is("nothing to write", x.write(), -1);
        due.is("what was written", x.octet(1), '1');
        due.is("what was written", x.octet(0), '0');
        due.is("the BENCH", x.row(1), 0);
        due.is("the BENCH", x.stopped(), 2);
        due.is("the FAULT", x.fault(), 4);
        due.is("the tape", x.is(8), 3);
        due.is("HEAT is KEPT", x.is(11), 0);
    }

    private static void keptWithoutBits() {
        HalvingMender x = new HalvingMender();
        x.seed(5);
        x.set(4, 7);
        due.is("keep", x.keep(0), true);
        Due.text(x, "b1;b2;");
        due.is("no BITS there", x.apart(0, 0, 1, 0), -1000000);
        x.keep(1);
        due.is("back", x.back(0), true);
        due.is("no BITS", x.is(0), 0);
        due.is("X", x.is(6), 5);
        due.is("STEP", x.is(5), 7);
        due.is("no BITS here", x.apart(1, 0, 1, 0), -1000000);
        due.is("no BITS here nor there", x.apart(0, 0, 1, 0), -1000000);
    }

    private static void apartFromTo() {
        HalvingMender x = Due.of("b1;b2;b4;");
        x.keep(0);
        x.off(2, 1);
        // 4 is 3, 5 is 4, 6 is 5, 7 is 6, 8 on is 7: apart from 4 up to 7 by 1
        due.is("4 up to 7", x.apart(0, 0, 9, 0), 4);
        due.is("from 4 on", x.apart(0, 4, 9, 0), 4);
        due.is("from 5 on", x.apart(0, 5, 9, 0), 3);
        due.is("up to 7", x.apart(0, 0, 7, 0), 4);
        due.is("up to 6", x.apart(0, 0, 6, 0), 3);
        due.is("one x", x.apart(0, 7, 7, 0), 1);
        due.is("one x", x.apart(0, 8, 8, 0), 0);
        due.is("2000 x", x.apart(0, -1992, 7, 0), 4);
        due.is("2001 x", x.apart(0, -1993, 7, 0), -1000000);
        due.is("the least", x.apart(0, -100000, -98001, 0), 0);
        due.is("below the least", x.apart(0, -100001, -100000, 0), -1000000);
        due.is("the greatest", x.apart(0, 98001, 100000, 0), 0);
        due.is("above the greatest", x.apart(0, 100000, 100001, 0), -1000000);
        due.is("b below a", x.apart(0, 1, 0, 0), -1000000);
        due.is("all ints", x.apart(0, MIN, MAX, 0), -1000000);
        for (int i : new int[] {-1, 1, 2, 3, MIN, MAX}) {
            due.is("i " + i, x.apart(i, 0, 9, 0), -1000000);
        }
        for (int what : new int[] {-1, 3, MIN, MAX}) {
            due.is("what " + what, x.apart(0, 0, 9, what), -1000000);
        }
    }

    private static void apartTold() {
        HalvingMender x = Due.of("b1;b2;b4;");
        x.keep(0);
        due.is("none", x.apart(0, 0, 9, 0), 0);
        due.is("no first", x.apart(0, 0, 9, 1), -1000000);
        due.is("by 0", x.apart(0, 0, 9, 2), 0);
        x.off(2, 1);
        due.is("the first", x.apart(0, 0, 9, 1), 4);
        due.is("the first from 6 on", x.apart(0, 6, 9, 1), 6);
        due.is("by 1", x.apart(0, 0, 9, 2), 1);
        x.stick(2, 0);
        // 4 on is 3: 7 on by 4
        due.is("by 4", x.apart(0, 0, 9, 2), 4);
        due.is("by 3 up to 6", x.apart(0, 0, 6, 2), 3);
        x.stick(2, 1);
        // 0 is 4, more here
        due.is("by 4, more", x.apart(0, 0, 0, 2), 4);
        due.is("x 0", x.apart(0, -9, 0, 1), -9);
    }

    // ---- SEEN ----

    private static void eightSeen() {
        HalvingMender x = Due.of("b1;b2;b4;");
        due.is("nothing SEEN", x.is(7), 0);
        for (int n = 1; n <= 8; n++) {
            due.is("see", x.see(n - 1, n - 1), n);
            due.is("SEEN", x.is(7), n);
        }
        for (int n = 0; n < 3; n++) {
            due.is("a 9th", x.see(0, 0), -1);
            due.is("still 8", x.is(7), 8);
        }
        due.is("a 9th too far", x.see(-100001, 0), -2);
        due.is("STUCK as all eight are: none", x.faults(0, 0), 0);
        due.is("wipe", x.wipe(), 8);
        due.is("and again", x.see(0, 0), 1);
        Due.text(x, "b1;b2;");
        due.is("text: SEEN is nothing", x.wipe(), 0);
        x.see(0, 0);
        x.draw(2, 100);
        due.is("draw: SEEN is nothing", x.is(7), 0);
    }

    private static void farSeen() {
        HalvingMender x = new HalvingMender();
        due.is("the greatest x", x.see(100000, MAX), 1);
        due.is("the least x", x.see(-100000, MIN), 2);
        for (int far : new int[] {100001, -100001, MIN, MAX}) {
            due.is("see " + far, x.see(far, 0), -2);
        }
        due.is("two are SEEN", x.is(7), 2);
        HalvingMender y = Due.of("b1;b2;b4;");
        y.see(100000, 6);
        y.see(-100000, 0);
        due.is("BIT 0 STUCK at 0", y.faults(0, 0), 1);
        due.is("BIT 0", y.faults(0, 1), 0);
        due.is("at 0", y.faults(0, 2), 0);
    }

    private static void wipe() {
        HalvingMender x = new HalvingMender();
        due.is("nothing SEEN", x.wipe(), 0);
        x.see(1, 1);
        due.is("one", x.wipe(), 1);
        due.is("nothing any more", x.wipe(), 0);
        due.is("SEEN", x.is(7), 0);
    }

    // ---- FAULTS ----

    /** Nothing SEEN: all is so, by each fault that can be. */
    private static void nothingSeen() {
        for (int bits = 2; bits <= 12; bits++) {
            HalvingMender x = Due.of("b1;".repeat(bits));
            due.is("STUCK at 0 or 1", x.faults(0, 0), 2 * bits);
            due.is("the first BIT", x.faults(0, 1), 0);
            due.is("at 0", x.faults(0, 2), 0);
            due.is("1 to 20 more", x.faults(1, 0), 20 * bits);
            due.is("the first BIT", x.faults(1, 1), 0);
            due.is("1 more", x.faults(1, 2), 1);
        }
        int[] weights = {1, 2, 19, 20, 21, 22, 500};
        for (int weight : weights) {
            int less = Math.min(20, weight - 1);
            HalvingMender x = Due.of("b" + weight + ";b1;");
            due.is("down to WEIGHT 1, 20 at most: " + weight, x.faults(1, 0), less + 20 + 20);
            due.is("the first", x.faults(1, 2), less == 0 ? 1 : -less);
            HalvingMender y = Due.of("b" + (weight + 99) + ":-99;b1:99;");
            due.is("the WEIGHT is asked, not the OFF", y.faults(1, 0), less + 20 + 40);
            due.is("the first", y.faults(1, 2), less == 0 ? 1 : -less);
        }
        for (int kind : new int[] {-1, 2, MIN, MAX}) {
            due.is("kind " + kind, Due.of("b1;b2;").faults(kind, 0), -100);
        }
        for (int what : new int[] {-1, 3, MIN, MAX}) {
            due.is("what " + what, Due.of("b1;b2;").faults(0, what), -100);
            due.is("what " + what, Due.of("b1;b2;").faults(1, what), -100);
        }
        due.is("no BITS", new HalvingMender().faults(0, 0), -100);
        due.is("no BITS", new HalvingMender().faults(1, 0), -100);
    }

    /** All SEEN is so: one of eight that isn't, wherever, leaves no fault. */
    private static void allSeen() {
        for (int wrong = -1; wrong < 8; wrong++) {
            HalvingMender x = Due.of("b1;b2;b4;");
            for (int n = 0; n < 8; n++) {
                // as BIT 1 STUCK at 0 has them; but one
                int code = new int[] {0, 1, 1, 1, 4, 5, 5, 5}[n];
                x.see(n, n == wrong ? code + 1 : code);
            }
            due.is("one fault but of a wrong one " + wrong, x.faults(0, 0), wrong == -1 ? 1 : 0);
            due.is("BIT 1", x.faults(0, 1), wrong == -1 ? 1 : -100);
            due.is("at 0", x.faults(0, 2), wrong == -1 ? 0 : -100);
            // BIT 1 of a WEIGHT of 4 or more never is 1, too: 2 to 20 more
            due.is("OFFS but by a wrong one " + wrong, x.faults(1, 0), wrong == -1 ? 19 : 0);
            due.is("BIT 1", x.faults(1, 1), wrong == -1 ? 1 : -100);
            due.is("2 more", x.faults(1, 2), wrong == -1 ? 2 : -100);
        }
    }

    private static void stuckFaults() {
        HalvingMender x = Due.of("b1;b2;b4;");
        x.see(0, 4);
        due.is("one", x.faults(0, 0), 1);
        due.is("the highest BIT", x.faults(0, 1), 2);
        due.is("at 1", x.faults(0, 2), 1);
        x.wipe();
        x.see(7, 6);
        due.is("one", x.faults(0, 0), 1);
        due.is("the lowest BIT", x.faults(0, 1), 0);
        due.is("at 0", x.faults(0, 2), 0);
        x.wipe();
        x.see(4, 4);
        // BIT 0 at 0, BIT 1 at 0, BIT 2 at 1 change nothing
        due.is("three", x.faults(0, 0), 3);
        x.wipe();
        x.see(7, 8);
        due.is("none", x.faults(0, 0), 0);
        due.is("no BIT", x.faults(0, 1), -100);
        due.is("no v", x.faults(0, 2), -100);
        for (int i = 0; i < 3; i++) {
            due.is("nothing is STUCK", x.bit(i, 3), -1);
        }
    }

    /** BIT 1 as heavy as only 20 more, 20 less or 1 more can make it. */
    private static void offFaults() {
        HalvingMender x = Due.of("b1;b50;");
        x.see(69, 1);
        x.see(70, 50);
        due.is("20 more", x.faults(1, 0), 1);
        due.is("20 more", x.faults(1, 2), 20);
        x.wipe();
        x.see(70, 1);
        x.see(71, 50);
        due.is("21 more is none", x.faults(1, 0), 0);
        due.is("so there is no v", x.faults(1, 2), -100);
        x.wipe();
        x.see(29, 1);
        x.see(30, 50);
        due.is("20 less", x.faults(1, 0), 1);
        due.is("20 less", x.faults(1, 2), -20);
        x.wipe();
        x.see(28, 1);
        x.see(29, 50);
        due.is("21 less is none", x.faults(1, 0), 0);
        x.wipe();
        x.see(49, 1);
        x.see(50, 50);
        // BIT 1 as it is: but 0. BIT 0 up to 20 heavier is in none of both another
        due.is("0 is none", x.faults(1, 0), 20);
        due.is("BIT 0", x.faults(1, 1), 0);
        due.is("1 more", x.faults(1, 2), 1);
        x.wipe();
        x.see(2, 50);
        due.is("48 less is none", x.faults(1, 0), 0);
        HalvingMender y = Due.of("b1;b3;");
        y.see(1, 3);
        due.is("down to WEIGHT 1", y.faults(1, 2), -2);
        due.is("alone", y.faults(1, 0), 1);
        y.wipe();
        y.see(0, 3);
        due.is("never to WEIGHT 0", y.faults(1, 0), 0);
        due.is("OFF is as it was", y.bit(1, 1), 0);
    }
}
