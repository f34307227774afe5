import java.util.Map;
import java.util.Set;
import java.util.TreeSet;

/**
 * Promises 2 to 48: each call that is refused, by the first value that is not taken any more on each side and by the
 * farthest: what it answers, and that all else stays. And each call that only asks leaves all as it is.
 */
public final class RefusedTest {
    private static final Due due = new Due("RefusedTest");

    /** On an object of BITS 0 to 3, 9 bytes on the tape, KEPT 0 and 1 (without BITS). */
    private static final String[] FULL = {
        "end(-1) -1", "end(10) -1", "end(MIN) -1", "end(MAX) -1", "is(-1) -100000", "is(13) -100000",
        "is(MIN) -100000", "is(MAX) -100000", "bit(-1, 0) -100000", "bit(4, 0) -100000", "bit(MIN, 0) -100000",
        "bit(MAX, 0) -100000", "bit(0, -1) -100000", "bit(0, 6) -100000", "bit(3, MIN) -100000",
        "bit(3, MAX) -100000", "off(-1, 0) 0", "off(4, 0) 0", "off(MIN, 0) 0", "off(MAX, 0) 0", "off(0, -1) 0",
        "off(3, -5) 0", "off(3, 100) 0", "off(3, -100) 0", "off(0, MIN) 0", "off(3, MAX) 0", "set(-1, 1) 0",
        "set(5, 1) 0", "set(MIN, 1) 0", "set(MAX, 1) 0", "set(0, -100) 0", "set(0, 100) 0", "set(0, MIN) 0",
        "set(0, MAX) 0", "set(1, -1) 0", "set(1, 51) 0", "set(1, MIN) 0", "set(1, MAX) 0", "set(2, -1) 0",
        "set(2, 4) 0", "set(2, MIN) 0", "set(2, MAX) 0", "set(3, -1) 0", "set(3, 21) 0", "set(3, MIN) 0",
        "set(3, MAX) 0", "set(4, 0) 0", "set(4, 65) 0", "set(4, MIN) 0", "set(4, MAX) 0", "stick(-1, 0) 0",
        "stick(4, 0) 0", "stick(MIN, 0) 0", "stick(MAX, 0) 0", "stick(1, -2) 0", "stick(1, 2) 0", "stick(1, MIN) 0",
        "stick(1, MAX) 0", "convert(100001) -1000000", "convert(-100001) -1000000", "convert(MIN) -1000000",
        "convert(MAX) -1000000", "decision(-1, 0) -1000000", "decision(4, 0) -1000000", "decision(MIN, 0) -1000000",
        "decision(MAX, 0) -1000000", "decision(0, -1) -1000000", "decision(0, 4) -1000000",
        "decision(3, MIN) -1000000", "decision(3, MAX) -1000000", "converted(-1) -1000000", "converted(6) -1000000",
        "converted(MIN) -1000000", "converted(MAX) -1000000", "octet(-1) -1", "octet(4) -1", "octet(MIN) -1",
        "octet(MAX) -1", "learn(0, 1) -1", "learn(5, 1) -1", "learn(MIN, 1) -1", "learn(MAX, 1) -1", "learn(1, 0) -1",
        "learn(1, 9) -1", "learn(1, MIN) -1", "learn(1, MAX) -1", "learn(4, 0) -1", "learn(4, 9) -1",
        "code(100001) -1000000", "code(-100001) -1000000", "code(MIN) -1000000", "code(MAX) -1000000",
        "forgiven(100001, 0) -1", "forgiven(-100001, 0) -1", "forgiven(MIN, 0) -1", "forgiven(MAX, 0) -1",
        "forgiven(0, -1) -1", "forgiven(0, 4) -1", "forgiven(0, MIN) -1", "forgiven(0, MAX) -1", "slack(-1) -2",
        "slack(4) -2", "slack(MIN) -2", "slack(MAX) -2", "histogram(-100001, -100000, 1, 0) -1000000",
        "histogram(MIN, 0, 1, 0) -1000000", "histogram(MIN, MAX, 1, 0) -1000000",
        "histogram(MIN, MAX, MAX, 0) -1000000", "histogram(100000, 100001, 1, 0) -1000000",
        "histogram(100000, MAX, MAX, 0) -1000000", "histogram(1, 0, 1, 0) -1000000",
        "histogram(100000, -100000, 1, 0) -1000000", "histogram(0, 1, 0, 0) -1000000",
        "histogram(0, 1, -1, 0) -1000000", "histogram(0, 1, MIN, 0) -1000000", "histogram(0, 2000, 1, 0) -1000000",
        "histogram(0, 4000, 2, 0) -1000000", "histogram(-100000, 100000, 100, 0) -1000000",
        "histogram(0, 1, 1, -1) -1000000", "histogram(0, 1, 1, 10) -1000000", "histogram(0, 1, 1, MIN) -1000000",
        "histogram(0, 1, 1, MAX) -1000000", "often(-100001, -100000, 1, 0) -1", "often(100000, 100001, 1, 0) -1",
        "often(1, 0, 1, 0) -1", "often(0, 1, 0, 0) -1", "often(0, 1, -1, 0) -1", "often(0, 2000, 1, 0) -1",
        "often(0, 4000, 2, 0) -1", "often(MIN, MAX, 1, 0) -1", "often(-100000, 100000, 100, 0) -1",
        "first(-100001, -100000, 0) -1000000", "first(100000, 100001, 0) -1000000", "first(1, 0, 0) -1000000",
        "first(0, 2000, 0) -1000000", "first(MIN, MAX, 0) -1000000", "first(MIN, MIN, 0) -1000000",
        "crowd(1, 0, 0, 1, 0) -1", "crowd(1, 21, 0, 1, 0) -1", "crowd(1, MIN, 0, 1, 0) -1",
        "crowd(1, MAX, 0, 1, 0) -1", "crowd(1, 1, -1, 1, 0) -1", "crowd(1, 1, 100, 1, 0) -1",
        "crowd(1, 1, MIN, 1, 0) -1", "crowd(1, 1, MAX, 1, 0) -1", "crowd(1, 1, 0, 0, 0) -1",
        "crowd(1, 1, 0, 5, 0) -1", "crowd(1, 1, 0, MIN, 0) -1", "crowd(1, 1, 0, MAX, 0) -1",
        "crowd(1, 1, 0, 1, -1) -1", "crowd(1, 1, 0, 1, 3) -1", "crowd(1, 1, 0, 1, MIN) -1",
        "crowd(1, 1, 0, 1, MAX) -1", "drawn(1, 50, 0, 0) -1", "drawn(13, 50, 0, 0) -1", "drawn(4, -1, 0, 0) -1",
        "drawn(4, 101, 0, 0) -1", "drawn(4, 50, -1, 0) -1", "drawn(4, 50, 4, 0) -1", "drawn(4, 50, 0, -1) -1",
        "drawn(4, 50, 0, 2) -1", "drawn(1, 50, 0, 1) -1", "drawn(13, 50, 0, 1) -1", "drawn(4, -1, 0, 1) -1",
        "drawn(4, 101, 0, 1) -1", "drawn(MIN, 50, 0, 1) -1", "drawn(MAX, 50, 0, 1) -1", "drawn(4, MIN, 0, 1) -1",
        "drawn(4, MAX, 0, 1) -1", "fewest(-1, 1) -1", "fewest(101, 1) -1", "fewest(100, 0) -1",
        "fewest(100, 4096) -1", "fewest(100, -1) -1", "fewest(MIN, 1) -1", "fewest(MAX, 1) -1", "fewest(100, MIN) -1",
        "fewest(100, MAX) -1", "draw(1, 50) 0", "draw(13, 50) 0", "draw(4, -1) 0", "draw(4, 101) 0",
        "draw(MIN, 50) 0", "draw(MAX, 50) 0", "draw(4, MIN) 0", "draw(4, MAX) 0", "heat(-1) 0", "heat(100) 0",
        "heat(MIN) 0", "heat(MAX) 0", "pass(0) -1", "pass(101) -1", "pass(-1) -1", "pass(MIN) -1", "pass(MAX) -1",
        "due(-1, 0) -2", "due(MIN, 0) -2", "due(0, -1) -2", "due(0, MIN) -2", "due(0, 4000) -2", "due(0, MAX) -2",
        "plan(0, 1, 0) -1", "plan(5, 1, 0) -1", "plan(MIN, 1, 0) -1", "plan(MAX, 1, 0) -1", "plan(1, 0, 0) -1",
        "plan(1, 41, 0) -1", "plan(1, MIN, 0) -1", "plan(1, MAX, 0) -1", "plan(1, 1, -1) -1", "plan(1, 1, 3) -1",
        "plan(1, 1, MIN) -1", "plan(1, 1, MAX) -1", "sums(-1) -1", "sums(4) -1", "sums(MIN) -1", "sums(MAX) -1",
        "mean(100001, 1) -1000000", "mean(-100001, 1) -1000000", "mean(MIN, 1) -1000000", "mean(MAX, 1) -1000000",
        "mean(0, 0) -1000000", "mean(0, 101) -1000000", "mean(0, MIN) -1000000", "mean(0, MAX) -1000000",
        "apart(-1, 0, 1, 0) -1000000", "apart(3, 0, 1, 0) -1000000", "apart(2, 0, 1, 0) -1000000",
        "apart(1, 0, 1, 0) -1000000", "apart(1, 0, 1, 2) -1000000", "apart(MIN, 0, 1, 0) -1000000",
        "apart(MAX, 0, 1, 0) -1000000", "apart(0, -100001, -100000, 0) -1000000",
        "apart(0, 100000, 100001, 0) -1000000", "apart(0, 1, 0, 0) -1000000", "apart(0, 0, 2000, 0) -1000000",
        "apart(0, 0, 1, -1) -1000000", "apart(0, 0, 1, 3) -1000000", "apart(0, MIN, MAX, 0) -1000000",
        "apart(0, 0, 1, MIN) -1000000", "apart(0, 0, 1, MAX) -1000000", "loosest(1, 1) -1", "loosest(13, 1) -1",
        "loosest(4, 0) -1", "loosest(4, 4096) -1", "loosest(4, 16) -1", "loosest(MIN, 1) -1", "loosest(MAX, 1) -1",
        "loosest(4, MIN) -1", "loosest(4, MAX) -1", "tightest(-1) -2", "tightest(2) -2", "tightest(MIN) -2",
        "tightest(MAX) -2", "gap(-1) -2", "gap(2) -2", "gap(MIN) -2", "gap(MAX) -2", "see(100001, 0) -2",
        "see(-100001, 0) -2", "see(MIN, 0) -2", "see(MAX, 0) -2", "faults(-1, 0) -100", "faults(2, 0) -100",
        "faults(MIN, 0) -100", "faults(MAX, 0) -100", "faults(0, -1) -100", "faults(0, 3) -100",
        "faults(1, MIN) -100", "faults(1, MAX) -100", "row(-1) -1000000", "row(2) -1000000", "row(MIN) -1000000",
        "row(MAX) -1000000", "keep(-1) 0", "keep(3) 0", "keep(MIN) 0", "keep(MAX) 0", "back(-1) 0", "back(3) 0",
        "back(2) 0", "back(MIN) 0", "back(MAX) 0"};

    /** On an object without BITS, and so without a CONVERSION; KEPT 0 has some. */
    private static final String[] BARE = {
        "bit(0, 0) -100000", "bit(0, 5) -100000", "off(0, 0) 0", "off(0, 1) 0", "stick(0, 0) 0", "stick(0, -1) 0",
        "convert(0) -1000000", "decision(0, 0) -1000000", "converted(0) -1000000", "converted(5) -1000000",
        "write() -1", "octet(0) -1", "learn(1, 1) -1", "learn(0, 1) -1", "forget() 0", "code(0) -1000000",
        "forgiven(0, 0) -1", "slack(0) -2", "histogram(0, 1, 1, 0) -1000000", "often(0, 1, 1, 0) -1",
        "first(0, 1, 0) -1000000", "crowd(1, 1, 0, 1, 0) -1", "crowd(1, 1, 0, 0, 0) -1", "due(0, 0) -2",
        "plan(1, 1, 0) -1", "plan(0, 1, 0) -1", "ways(0) -1", "sums(0) -1", "sums(3) -1", "mean(0, 1) -1000000",
        "apart(0, 0, 1, 0) -1000000", "apart(1, 0, 1, 0) -1000000", "tightest(0) -2", "tightest(1) -2", "gap(0) -2",
        "gap(1) -2", "faults(0, 0) -100", "faults(1, 0) -100", "faults(0, 1) -100", "text() -1", "bench() -1"};

    /** What only asks, and what is tried aside. */
    private static final String[] ASKING = {
        "fault()", "is(0)", "bit(3, 4)", "decision(3, 2)", "converted(0)", "octet(0)", "code(5)", "forgiven(5, 3)",
        "slack(3)", "histogram(-9, 90, 3, 1)", "often(0, 9, 1, 2)", "first(0, 9, 2)", "crowd(99, 20, 9, 1, 2)",
        "drawn(12, 85, 3, 0)", "drawn(12, 85, 3, 1)", "fewest(85, 4000)", "due(9, 90)", "plan(1, 40, 2)", "ways(3)",
        "sums(1)", "apart(0, -9, 90, 2)", "loosest(12, 999)", "tightest(0)", "gap(0)", "faults(0, 0)", "faults(1, 0)",
        "stopped()", "row(0)"};

    public static void main(String[] args) {
        refusedWithBits();
        refusedWithoutBits();
        askingChangesNothing();
        faultsLeaveAll();
        fullTape();
        eightSeen();
        tooHeavy();
        due.end();
    }

    private static void refused(String told, HalvingMender x) {
        String call = told.substring(0, told.indexOf(')') + 1);
        long answer = Long.parseLong(told.substring(told.indexOf(')') + 2));
        Map<String, Long> was = Calls.shown(x);
        due.is(call, Calls.ask(x, call), answer);
        Calls.stays(due, call, x, was, Set.of());
    }

    private static void tapeStays(String call, HalvingMender x) {
        due.is("behind " + call + ", the tape", x.text(), 3);
        for (int i = 0; i < 3; i++) {
            due.is("behind " + call + ", SIZE by the tape", x.bit(i, 0), 1 << i);
        }
    }

    private static void refusedWithBits() {
        for (String told : FULL) {
            HalvingMender x = Calls.full();
            refused(told, x);
            tapeStays(told, x);
        }
    }

    private static void refusedWithoutBits() {
        for (String told : BARE) {
            HalvingMender x = Calls.bare();
            if (told.startsWith("text") || told.startsWith("bench")) {
                // these are asked without anything on the tape but a FAULT
                Due.tape(x, "b1;");
                Map<String, Long> was = Calls.shown(x);
                due.is(told, Calls.ask(x, told.substring(0, told.indexOf(' '))), -1);
                Calls.stays(due, told, x, was, Set.of("is(8)", "fault()"));
            } else {
                refused(told, x);
                tapeStays(told, x);
            }
        }
    }

    private static void askingChangesNothing() {
        for (String call : ASKING) {
            HalvingMender x = Calls.full();
            Map<String, Long> was = Calls.shown(x);
            Calls.ask(x, call);
            Calls.stays(due, call, x, was, Set.of());
            tapeStays(call, x);
        }
        Set<String> named = new TreeSet<>();
        for (String call : ASKING) {
            named.add(call.substring(0, call.indexOf('(')));
        }
        due.is("asked are " + named, named.size(), 26);
    }

    private static void faultsLeaveAll() {
        String[] texts = {"", "b7;b8;o9;d9;r0;n9;g9;x", "b7;", "b7;b8;b0;"};
        String[] drifts = {"9+", "x", "12345", "-".repeat(8) + "1"};
        String[] benches = {"c9;h9;x9;f;p9;o0,9;s0,0;l1,1;c", "x", "h99;x5;".repeat(20) + "f;"};
        for (String text : texts) {
            faultLeavesAll("text()", text);
        }
        for (String text : drifts) {
            faultLeavesAll("drift()", text);
        }
        for (String text : benches) {
            faultLeavesAll("bench()", text);
        }
    }

    private static void faultLeavesAll(String call, String text) {
        for (HalvingMender x : new HalvingMender[] {Calls.full(), Calls.bare()}) {
            Due.tape(x, text);
            Map<String, Long> was = Calls.shown(x);
            due.is(call + " of " + text, Calls.ask(x, call), -1);
            due.is("its FAULT", x.fault() >= 0, true);
            due.is("the tape is empty", x.is(8), 0);
            Calls.stays(due, call + " of " + text, x, was, Set.of("is(8)", "fault()"));
        }
    }

    /** feed: 400 bytes are the most; what is refused leaves those that are there. */
    private static void fullTape() {
        for (int more : new int[] {1, 20}) {
            HalvingMender x = Calls.full();
            String text = "b1;b2;b4;o5;d5;r1;n1;g1;";
            Due.tape(x, text + "!".repeat(380 + more - text.length()));
            Map<String, Long> was = Calls.shown(x);
            due.is("feed beyond 400", x.feed(1, 2, 3, 4, 5), -1);
            Calls.stays(due, "feed", x, was, Set.of());
            due.is("end", x.end(text.length()), text.length());
            due.is("the tape", x.text(), 3);
        }
    }

    /** see: there are 8. */
    private static void eightSeen() {
        HalvingMender x = Calls.full();
        for (int n = 3; n <= 8; n++) {
            due.is("see", x.see(3, 2), n);
        }
        Map<String, Long> was = Calls.shown(x);
        due.is("a 9th", x.see(3, 999), -1);
        Calls.stays(due, "a 9th see", x, was, Set.of());
        due.is("a 9th that is too far", x.see(100001, 0), -2);
        Calls.stays(due, "a 9th see that is too far", x, was, Set.of());
    }

    /** crowd, plan: all SIZES together by STEP above 1999; ways, sums: all WORTHS together above 20000. */
    private static void tooHeavy() {
        HalvingMender x = Due.of("b1;b9999;b9999;b2;g10;");
        x.see(3, 0);
        Map<String, Long> was = Calls.shown(x);
        for (String call : new String[] {"crowd(1, 1, 0, 1, 0)", "plan(1, 1, 0)", "ways(0)", "ways(20001)", "sums(0)",
            "sums(3)"}) {
            due.is(call, Calls.ask(x, call), -1);
            Calls.stays(due, call, x, was, Set.of());
        }
    }
}
