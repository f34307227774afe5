/** Promises 37, 41 to 43, 47 and 48: apart, see, wipe, faults, keep, back. */
public final class KeptTest {
    private static final Due due = new Due("KeptTest");

    public static void main(String[] args) {
        keepAndBack();
        keptStays();
        keepEdges();
        apart();
        apartEdges();
        seeAndWipe();
        stuckFaults();
        offFaults();
        faultsOnTopOfAll();
        faultEdges();
        due.end();
    }

    private static void keepAndBack() {
        HalvingMender x = Due.of("b3:1;b5:-2;o7;d8;r1;n9;g10;");
        x.stick(1, 1);
        x.learn(1, 2);
        x.seed(11);
        x.heat(12);
        x.pass(13);
        x.see(14, 15);
        Due.drift(x, "2");
        int[] was = new int[13];
        for (int what = 0; what < 13; what++) {
            was[what] = x.is(what);
        }
        int worth = x.bit(1, 2);
        due.is("keep", x.keep(2), true);
        Due.text(x, "b1;b2;b4;");
        x.seed(1);
        x.heat(0);
        x.pass(1);
        Due.drift(x, "");
        x.see(1, 1);
        x.see(2, 2);
        x.convert(3);
        x.write();
        due.is("back", x.back(2), true);
        for (int what = 0; what < 13; what++) {
            due.is("is(" + what + ") is back", x.is(what), was[what]);
        }
        int[] bit = {5, -2, worth, 1, 3};
        for (int what = 0; what < 5; what++) {
            due.is("bit(1, " + what + ") is back", x.bit(1, what), bit[what]);
        }
        due.is("no CONVERSION was", x.converted(0), -1000000);
        due.is("no CONVERSION was", x.write(), -1);
        due.is("what was written stays", x.octet(0), '0');
        x.pass(1);
        due.is("DRIFT is back", x.bit(1, 1), 0);
        x.convert(0);
        due.is("refused", x.back(1), false);
        due.is("the CONVERSION stays", x.converted(1) >= 0, true);
    }

    /** What is KEPT stays as it was, whatever is done to the CONVERTER behind. */
    private static void keptStays() {
        HalvingMender x = Due.of("b1;b2;");
        x.see(1, 1);
        x.keep(0);
        x.off(0, 9);
        x.stick(1, 0);
        x.learn(1, 1);
        x.set(0, 5);
        x.wipe();
        x.see(8, 8);
        x.keep(1);
        x.back(0);
        due.is("OFF", x.bit(0, 1), 0);
        due.is("STUCK", x.bit(1, 3), -1);
        due.is("OFFSET", x.is(1), 0);
        due.is("SEEN fits", x.faults(1, 0) > 0, true);
        x.off(0, 4);
        x.back(0);
        due.is("back again", x.bit(0, 1), 0);
        x.back(1);
        due.is("the other one", x.bit(0, 1), 9);
        due.is("the other one", x.bit(1, 3), 0);
        x.keep(0);
        Due.text(x, "b7;b7;");
        x.back(0);
        due.is("KEPT anew", x.bit(0, 1), 9);
    }

    private static void keepEdges() {
        HalvingMender x = new HalvingMender();
        due.is("keep(3)", x.keep(3), false);
        due.is("keep(-1)", x.keep(-1), false);
        due.is("back(3)", x.back(3), false);
        due.is("back(-1)", x.back(-1), false);
        due.is("back(0)", x.back(0), false);
        due.is("without BITS", x.keep(0), true);
        Due.text(x, "b1;b2;");
        due.is("others are not KEPT", x.back(1), false);
        due.is("all stays", x.is(0), 2);
        due.is("back to none", x.back(0), true);
        due.is("no BITS", x.is(0), 0);
        due.is("no BITS", x.convert(0), -1000000);
    }

    private static void apart() {
        HalvingMender x = Due.of("b1;b2;b4;b8;");
        x.keep(1);
        due.is("like", x.apart(1, -5, 20, 0), 0);
        due.is("like: none", x.apart(1, -5, 20, 1), -1000000);
        due.is("like: by 0", x.apart(1, -5, 20, 2), 0);
        x.off(3, 3);
        // WEIGHT 11: 8, 9, 10 are 7; from 11 on 3 less, 15 from 18 on
        due.is("how many", x.apart(1, -5, 20, 0), 3 + 7);
        due.is("first", x.apart(1, -5, 20, 1), 8);
        due.is("by 3", x.apart(1, -5, 20, 2), 3);
        due.is("up to 8", x.apart(1, -5, 8, 2), 1);
        x.set(4, 64);
        // here all CODES are 0; those of what is KEPT by its own STEP
        due.is("by its own STEP", x.apart(1, 0, 15, 2), 15);
        due.is("by its own STEP", x.apart(1, 0, 15, 0), 15);
        x.set(3, 20);
        due.is("ON PAPER", x.apart(1, 0, 15, 0), 15);
        due.is("nothing drawn", x.is(6), 1);
    }

    private static void apartEdges() {
        HalvingMender x = new HalvingMender();
        x.keep(0);
        due.is("no BITS", x.apart(0, 0, 1, 0), -1000000);
        Due.text(x, "b1;b2;");
        due.is("no BITS there", x.apart(0, 0, 1, 0), -1000000);
        x.keep(1);
        due.is("well", x.apart(1, 0, 1, 0), 0);
        due.is("nothing KEPT", x.apart(2, 0, 1, 0), -1000000);
        due.is("others", x.apart(3, 0, 1, 0), -1000000);
        due.is("others", x.apart(-1, 0, 1, 0), -1000000);
        due.is("b below a", x.apart(1, 1, 0, 0), -1000000);
        due.is("2000 x", x.apart(1, 0, 1999, 0), 0);
        due.is("2001 x", x.apart(1, 0, 2000, 0), -1000000);
        due.is("too far", x.apart(1, -100001, -100000, 0), -1000000);
        due.is("too far", x.apart(1, 100000, 100001, 0), -1000000);
        due.is("others", x.apart(1, 0, 1, 3), -1000000);
        due.is("others", x.apart(1, 0, 1, -1), -1000000);
        x.back(0);
        due.is("no BITS here", x.apart(1, 0, 1, 0), -1000000);
    }

    private static void seeAndWipe() {
        HalvingMender x = new HalvingMender();
        for (int n = 1; n <= 8; n++) {
            due.is("see", x.see(n % 2 == 0 ? 100000 : -100000, n), n);
            due.is("is(7)", x.is(7), n);
        }
        due.is("a 9th", x.see(0, 0), -1);
        due.is("a 9th too far", x.see(100001, 0), -2);
        due.is("still 8", x.is(7), 8);
        due.is("wipe", x.wipe(), 8);
        due.is("wipe again", x.wipe(), 0);
        due.is("too far", x.see(-100001, 0), -2);
        due.is("none", x.is(7), 0);
        due.is("see again", x.see(0, Integer.MIN_VALUE), 1);
    }

    private static void stuckFaults() {
        HalvingMender x = Due.of("b1;b2;b4;");
        due.is("nothing SEEN: all", x.faults(0, 0), 6);
        due.is("BIT 0", x.faults(0, 1), 0);
        due.is("at 0", x.faults(0, 2), 0);
        x.see(7, 5);
        due.is("one alone", x.faults(0, 0), 1);
        due.is("BIT 1", x.faults(0, 1), 1);
        due.is("at 0", x.faults(0, 2), 0);
        x.see(0, 0);
        due.is("still", x.faults(0, 0), 1);
        x.see(2, 2);
        due.is("none", x.faults(0, 0), 0);
        due.is("none", x.faults(0, 1), -100);
        due.is("none", x.faults(0, 2), -100);
        x.wipe();
        x.see(4, 4);
        // BIT 0 at 0; BIT 1 at 0; BIT 2 at 1
        due.is("three", x.faults(0, 0), 3);
        x.wipe();
        x.see(0, 4);
        due.is("BIT 2", x.faults(0, 1), 2);
        due.is("at 1", x.faults(0, 2), 1);
        due.is("nothing STUCK behind", x.bit(2, 3), -1);
    }

    private static void offFaults() {
        HalvingMender x = Due.of("b1;b2;b40;");
        // up to 20 more each; down to a WEIGHT of 1: none, 1 and 20
        due.is("nothing SEEN: all", x.faults(1, 0), 20 + 21 + 40);
        due.is("BIT 0", x.faults(1, 1), 0);
        due.is("1 more", x.faults(1, 2), 1);
        x.see(39, 40);
        // BIT 2 lighter by 1: 39 is 40; by 2, 38 and then 1 is 41
        due.is("one", x.faults(1, 0), 1);
        due.is("BIT 2", x.faults(1, 1), 2);
        due.is("1 less", x.faults(1, 2), -1);
        x.wipe();
        x.see(20, 40);
        due.is("20 less", x.faults(1, 2), -20);
        x.wipe();
        x.see(59, 3);
        due.is("20 more", x.faults(1, 2), 20);
        due.is("20 more alone", x.faults(1, 0), 1);
        x.wipe();
        x.see(60, 3);
        due.is("21 more is none", x.faults(1, 0), 0);
        due.is("all as it was", x.bit(2, 1), 0);
    }

    private static void faultsOnTopOfAll() {
        HalvingMender x = Due.of("b1;b2;b4;n20;d50;r0;");
        x.stick(0, 1);
        x.off(2, 1);
        x.see(0, 1);
        // ON PAPER; BIT 0 STUCK at 1 as it is: all but BIT 0 at 0, and those at 1
        due.is("STUCK at all else", x.faults(0, 0), 3);
        due.is("the first: as it is", x.faults(0, 1), 0);
        due.is("the first: as it is", x.faults(0, 2), 1);
        x.wipe();
        x.see(0, 0);
        due.is("another way STUCK", x.faults(0, 0), 1);
        due.is("at 0", x.faults(0, 2), 0);
        x.wipe();
        x.see(4, 5);
        // OFF of BIT 2 is 1; 1 less mends it, 2 less and 3, too (1 is STUCK); more than that not, by BIT 1
        due.is("OFF on top of OFF", x.faults(1, 1), 2);
        due.is("nothing drawn", x.is(6), 1);
        HalvingMender y = Due.of("b1;b2:99;");
        y.see(110, 2);
        y.see(1, 1);
        // WEIGHT 101 and 9 more: only the WEIGHT is asked, so an OFF of 108 counts
        due.is("beyond 99", y.faults(1, 0), 1);
        due.is("BIT 1", y.faults(1, 1), 1);
        due.is("9 more", y.faults(1, 2), 9);
    }

    private static void faultEdges() {
        HalvingMender x = Due.of("b1;b2;");
        due.is("others", x.faults(2, 0), -100);
        due.is("others", x.faults(-1, 0), -100);
        due.is("others", x.faults(0, 3), -100);
        due.is("others", x.faults(0, -1), -100);
        due.is("no BITS", new HalvingMender().faults(0, 0), -100);
        due.is("no BITS", new HalvingMender().faults(1, 0), -100);
    }
}
