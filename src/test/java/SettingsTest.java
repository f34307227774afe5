/** Promises 6 to 11 and 30: is, bit, off, set, stick, seed, heat. */
public final class SettingsTest {
    private static final Due due = new Due("SettingsTest");

    public static void main(String[] args) {
        is();
        bit();
        off();
        set();
        stick();
        seed();
        heat();
        due.end();
    }

    private static void is() {
        HalvingMender x = Due.of("b1:2;b20:-3;b300;o-4;d5;r2;n7;g8;");
        x.seed(-123);
        x.see(0, 0);
        x.see(1, 0);
        x.heat(42);
        x.pass(6);
        x.feed(1, 2, 3, 4, 5);
        int[] all = {3, -4, 5, 2, 7, 8, -123, 2, 20, 320, 321, 42, 6};
        for (int what = 0; what < all.length; what++) {
            due.is("is(" + what + ")", x.is(what), all[what]);
        }
        due.is("is(13)", x.is(13), -100000);
        due.is("is(-1)", x.is(-1), -100000);
        x.learn(1, 1);
        // BIT 1 (17) by BIT 0 alone: both ways 1; BIT 2 (300) by both: 1 and 1
        due.is("WORTHS together", x.is(10), 1 + 1 + 2);
    }

    private static void bit() {
        HalvingMender x = Due.of("b3:-1;b2;b5:-1;b9;");
        x.stick(1, 0);
        due.is("SIZE", x.bit(0, 0), 3);
        due.is("OFF", x.bit(0, 1), -1);
        due.is("WORTH", x.bit(0, 2), 3);
        due.is("STUCK, not", x.bit(0, 3), -1);
        due.is("STUCK at 0", x.bit(1, 3), 0);
        due.is("WEIGHT", x.bit(0, 4), 2);
        due.is("BIT 0 is SHORT", x.bit(0, 5), 1);
        due.is("2 is not above 2", x.bit(1, 5), 0);
        due.is("4 is not above 4", x.bit(2, 5), 0);
        due.is("9 is above 8", x.bit(3, 5), 1);
        due.is("others", x.bit(0, 6), -100000);
        due.is("others", x.bit(0, -1), -100000);
        due.is("no such BIT", x.bit(4, 0), -100000);
        due.is("no such BIT", x.bit(-1, 0), -100000);
    }

    private static void off() {
        HalvingMender x = Due.of("b3;b200;");
        due.is("to a WEIGHT of 1", x.off(0, -2), true);
        due.is("WEIGHT", x.bit(0, 4), 1);
        due.is("to a WEIGHT of 0", x.off(0, -3), false);
        due.is("it stays", x.bit(0, 1), -2);
        due.is("WORTH stays", x.bit(0, 2), 3);
        due.is("99", x.off(1, 99), true);
        due.is("100", x.off(1, 100), false);
        due.is("-99", x.off(1, -99), true);
        due.is("-100", x.off(1, -100), false);
        due.is("it is -99", x.bit(1, 1), -99);
        due.is("no BIT", x.off(2, 0), false);
        due.is("no BIT", x.off(-1, 0), false);
        due.is("wrapping", x.off(0, Integer.MAX_VALUE), false);
    }

    private static void set() {
        int[] low = {-99, 0, 0, 0, 1};
        int[] high = {99, 50, 3, 20, 64};
        HalvingMender x = new HalvingMender();
        for (int what = 0; what < 5; what++) {
            due.is("set low " + what, x.set(what, low[what]), true);
            due.is("it is", x.is(what + 1), low[what]);
            due.is("set high " + what, x.set(what, high[what]), true);
            due.is("below " + what, x.set(what, low[what] - 1), false);
            due.is("above " + what, x.set(what, high[what] + 1), false);
            due.is("it stays", x.is(what + 1), high[what]);
        }
        due.is("others", x.set(5, 1), false);
        due.is("others", x.set(-1, 1), false);
    }

    private static void stick() {
        HalvingMender x = Due.of("b1;b2;");
        due.is("at 1", x.stick(1, 1), true);
        due.is("code", x.code(0), 2);
        due.is("at 0", x.stick(1, 0), true);
        due.is("code", x.code(3), 1);
        due.is("not any more", x.stick(1, -1), true);
        due.is("code", x.code(3), 3);
        due.is("at 2", x.stick(1, 2), false);
        due.is("at -2", x.stick(1, -2), false);
        due.is("no BIT", x.stick(2, 1), false);
        due.is("no BIT", x.stick(-1, 1), false);
        due.is("none is STUCK", x.bit(1, 3), -1);
    }

    private static void seed() {
        HalvingMender x = Due.of("b1;b2;");
        due.is("it was 1", x.seed(Integer.MIN_VALUE), 1);
        due.is("it was least", x.seed(7), Integer.MIN_VALUE);
        due.is("it is 7", x.is(6), 7);
    }

    private static void heat() {
        HalvingMender x = new HalvingMender();
        due.is("99", x.heat(99), true);
        due.is("100", x.heat(100), false);
        due.is("-1", x.heat(-1), false);
        due.is("it is 99", x.is(11), 99);
        due.is("0", x.heat(0), true);
        due.is("it is 0", x.is(11), 0);
    }
}
