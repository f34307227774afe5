/** Promises 34 and 35: ways and sums. */
public final class SumsTest {
    private static final Due due = new Due("SumsTest");

    public static void main(String[] args) {
        ways();
        sums();
        byWorths();
        edges();
        due.end();
    }

    private static void ways() {
        HalvingMender x = Due.of("b1;b1;b2;b3;");
        // 3: 3, 1 2, 1 2; 4: 1 3, 1 3, 1 1 2
        int[] ways = {1, 2, 2, 3, 3, 2, 2, 1, 0};
        for (int sum = 0; sum < ways.length; sum++) {
            due.is("ways(" + sum + ")", x.ways(sum), ways[sum]);
        }
        due.is("below 0", x.ways(-1), 0);
        due.is("far", x.ways(Integer.MAX_VALUE), 0);
    }

    private static void sums() {
        HalvingMender x = Due.of("b1;b1;b2;b3;");
        due.is("how many", x.sums(0), 8);
        due.is("the most WAYS", x.sums(1), 3);
        due.is("the least with that", x.sums(2), 3);
        due.is("none is left out", x.sums(3), -1);
        HalvingMender y = Due.of("b2;b3;b3;b9;");
        // 0 2 3 5 6 8 9 11 12 14 15 17
        due.is("how many", y.sums(0), 12);
        due.is("the most WAYS", y.sums(1), 2);
        due.is("the least with that", y.sums(2), 3);
        due.is("1 is left out", y.sums(3), 1);
        HalvingMender z = Due.of("b1;b2;b5;");
        // 0 1 2 3 5 6 7 8
        due.is("4 is left out", z.sums(3), 4);
        due.is("all once: the least", z.sums(2), 0);
        HalvingMender twelve = Due.of("b1;b2;b4;b8;b16;b32;b64;b128;b256;b512;b1024;b2048;");
        due.is("4096", twelve.sums(0), 4096);
        due.is("whole", twelve.sums(3), -1);
        due.is("once", twelve.ways(4095), 1);
        HalvingMender same = Due.of("b7;b7;b7;b7;b7;b7;b7;b7;b7;b7;b7;b7;");
        due.is("13", same.sums(0), 13);
        due.is("six of twelve", same.sums(1), 924);
        due.is("at 42", same.sums(2), 42);
        due.is("six of twelve", same.ways(42), 924);
    }

    private static void byWorths() {
        HalvingMender x = Due.of("b1;b2;b4;");
        x.stick(0, 0);
        x.learn(1, 1);
        // BIT 1 by BIT 0, that never is 1: WORTH 0; BIT 2: 0
        due.is("WORTHS 1, 0, 0", x.ways(1), 4);
        due.is("how many", x.sums(0), 2);
        due.is("the most WAYS", x.sums(1), 4);
        due.is("the least with that", x.sums(2), 0);
        due.is("others stay", x.sums(3), -1);
        x.off(2, 50);
        due.is("OFFS do not count", x.sums(0), 2);
    }

    private static void edges() {
        HalvingMender x = Due.of("b9999;b9999;b2;");
        due.is("20000", x.ways(20000), 1);
        due.is("20000", x.sums(1), 2);
        due.is("20000", x.sums(2), 9999);
        due.is("others", x.sums(4), -1);
        due.is("others", x.sums(-1), -1);
        HalvingMender y = Due.of("b9999;b9999;b3;");
        due.is("20001", y.ways(3), -1);
        due.is("20001", y.sums(0), -1);
        due.is("no BITS", new HalvingMender().ways(0), -1);
        due.is("no BITS", new HalvingMender().sums(0), -1);
    }
}
