import java.lang.management.ManagementFactory;

/** All calls of one run live in one room: no call, done 512 times on one object, may take much of it. */
public final class RoomTest {
    /** Far below the room's 600,000 objects (16 bytes each at least) and 7.3 million elements (4 bytes each). */
    private static final long MOST_BYTES = 4000000;
    private static final String TEXT = "b1:50;b1;b9;b10;b10;b50;b100;b200;b200;b300;b400;b400;d50;r2;n20;";
    private static final Due due = new Due("RoomTest");

    private interface Call {
        void on(HalvingMender x);
    }

    public static void main(String[] args) {
        ask("new", x -> new HalvingMender());
        ask("text", x -> x.text());
        ask("drift", x -> Due.drift(x, "t%19-9+i*h/(w%7-3)"));
        ask("bench", x -> Due.bench(x, "c5;l1,8;p100;f;o1,5;"));
        ask("convert", x -> x.convert(5));
        ask("learn", x -> x.learn(1, 8));
        ask("mean", x -> x.mean(5, 100));
        ask("tightest", x -> x.tightest(0));
        ask("histogram", x -> x.histogram(0, 1999, 1, 0));
        ask("often", x -> x.often(0, 1999, 1, 0));
        ask("first", x -> x.first(0, 1999, 99999));
        ask("crowd", x -> x.crowd(5, 20, 99, 1, 2));
        ask("fewest", x -> x.fewest(50, 4095));
        ask("loosest", x -> x.loosest(12, 4095));
        ask("pass", x -> x.pass(100));
        ask("due", x -> x.due(1000000, 1999));
        ask("plan", x -> x.plan(1, 40, 2));
        ask("ways", x -> x.ways(100));
        ask("sums", x -> x.sums(3));
        ask("apart", x -> x.apart(0, 0, 1999, 0));
        ask("faults", x -> x.faults(1, 0));
        ask("keep and back", x -> {
            x.keep(2);
            x.back(1);
        });
        due.end();
    }

    private static void ask(String name, Call call) {
        HalvingMender x = Due.of(TEXT);
        Due.drift(x, "t%19-9+i*h/(w%7-3)");
        x.see(5, 5);
        x.keep(0);
        x.keep(1);
        call.on(x);
        long ahead = taken();
        for (int n = 0; n < (name.equals("new") ? 40 : 512); n++) {
            call.on(x);
        }
        long bytes = taken() - ahead;
        due.is(name + " takes " + bytes + " bytes, too many", bytes < MOST_BYTES, true);
    }

    private static long taken() {
        com.sun.management.ThreadMXBean bean = (com.sun.management.ThreadMXBean) ManagementFactory.getThreadMXBean();
        return bean.getThreadAllocatedBytes(Thread.currentThread().getId());
    }
}
