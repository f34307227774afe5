import java.util.ArrayList;
import java.util.List;

/**
 * The fullest object that may be (12 BITS, 8 SEEN, 3 KEPT, 40 ACTS, 512 calls), asked as the Model is; and one that
 * had all that and has less now, asked as a new one is.
 */
public final class FullTest {
    private static final Due due = new Due("FullTest");
    /** 40 of them, 8 within one another. */
    private static final String THINGS = "[t%5<3?[i=11?-((((w-s)))):i-5]:h%7-3]" + "+1-1".repeat(10) + "*1";
    /** Calls that change nothing, at limits that only a full object has. */
    private static final String[] ASKED = {
        "is(0)", "is(9)", "is(10)", "bit(11, 0)", "bit(11, 1)", "bit(11, 2)", "bit(11, 4)", "bit(11, 5)",
        "bit(12, 0)", "bit(2, 0)", "bit(1, 5)", "decision(11, 0)", "decision(11, 2)", "decision(12, 0)",
        "decision(2, 0)", "decision(0, 3)", "converted(0)", "converted(1)", "converted(2)", "converted(3)",
        "converted(4)", "converted(5)", "octet(0)", "octet(2)", "octet(11)", "octet(12)", "code(0)", "code(100000)",
        "code(-100000)", "code(777)", "forgiven(777, 11)", "forgiven(777, 12)", "forgiven(3, 0)", "slack(11)",
        "slack(12)", "slack(2)", "slack(1)", "slack(0)", "histogram(0, 1999, 1, 0)", "histogram(0, 1999, 1, 1)",
        "histogram(0, 1999, 1, 2)", "histogram(0, 1999, 1, 3)", "histogram(0, 1999, 1, 4)",
        "histogram(0, 1999, 1, 5)", "histogram(0, 1999, 1, 6)", "histogram(0, 1999, 1, 7)",
        "histogram(0, 1999, 1, 8)", "histogram(0, 1999, 1, 9)", "histogram(7, 7, 1, 0)", "histogram(7, 7, 1, 1)",
        "histogram(7, 7, 1, 5)", "histogram(7, 7, 1, 6)", "often(0, 1999, 1, 3)", "often(7, 7, 1, 0)",
        "first(0, 1999, 500)", "first(0, 1999, 1)", "crowd(5, 20, 99, 1, 0)", "crowd(5, 20, 9, 12, 1)",
        "crowd(5, 20, 9, 2, 2)", "crowd(5, 20, 0, 13, 0)", "crowd(5, 20, 9, 3, 0)", "due(0, 1999)", "due(50, 1999)",
        "plan(1, 40, 0)", "plan(12, 40, 1)", "plan(2, 40, 2)", "plan(13, 40, 0)", "ways(0)", "ways(100)",
        "ways(4095)", "ways(20000)", "sums(0)", "sums(1)", "sums(2)", "sums(3)", "apart(0, 0, 1999, 0)",
        "apart(1, 0, 1999, 1)", "apart(2, 0, 1999, 2)", "tightest(0)", "tightest(1)", "gap(0)", "gap(1)",
        "faults(0, 0)", "faults(0, 1)", "faults(0, 2)", "faults(1, 0)", "faults(1, 1)", "faults(1, 2)", "row(0)",
        "row(39)", "row(40)", "stopped()", "fault()"};
    /** Calls that change what is asked behind them. */
    private static final String[] DONE = {
        "convert(1234)", "write()", "mean(77, 100)", "learn(1, 8)", "pass(100)", "convert(-99)", "stick(11, 0)",
        "off(11, 99)", "learn(12, 1)", "learn(11, 2)", "forget()", "convert(3)", "stick(12, 1)", "off(12, 1)",
        "heat(99)", "pass(7)", "see(1, 1)", "keep(1)", "draw(12, 100)", "convert(4095)", "draw(2, 100)", "convert(2)",
        "back(2)", "stick(2, 1)", "off(2, 1)", "learn(2, 1)", "learn(1, 1)", "back(1)", "wipe()"};

    private static final String[] TWELVE = {
        "b1;b2;b4;b8;b16;b32;b64;b128;b256;b512;b1024;b2048;",
        "b1;b1;b2;b3;b5;b8;b14;b24;b41;b72;b126;b200:-99;d50;r2;n20;o99;",
        "b9999:99;b1;b7;b30;b99;b99;b150;b160;b9;b300;b500;b400:50;g60;o-99;r0;d9;",
        "b1;b1;b1;b1;b1;b1;b1;b1;b1;b1;b1;b1;n1;"};

    public static void main(String[] args) {
        for (String text : TWELVE) {
            fullAsTheModel(text);
            hadMore(text);
        }
        fiveHundredAndTwelve();
        due.end();
    }

    /** The calls that bring it there. */
    private static List<String> filling(String text) {
        List<String> calls = new ArrayList<>();
        calls.add("keep(0)");
        read(calls, text, "text()");
        read(calls, THINGS, "drift()");
        calls.add("seed(-5)");
        calls.add("heat(9)");
        for (int i = 1; i < 3; i++) {
            calls.add("pass(" + i + ")");
            calls.add("keep(" + i + ")");
        }
        for (int n = 0; n < 8; n++) {
            calls.add("see(" + n * 111 + ", " + n * 111 + ")");
        }
        read(calls, "o11,0003;".repeat(39) + "c2222;", "bench()");
        calls.add("convert(2222)");
        calls.add("write()");
        return calls;
    }

    private static void read(List<String> calls, String text, String call) {
        calls.add("end(0)");
        for (int at = 0; at < text.length(); at += 20) {
            StringBuilder feed = new StringBuilder("feed(");
            for (int k = at; k < at + 20; k += 4) {
                int four = 0;
                for (int b = k; b < k + 4; b++) {
                    four = four << 8 | (b < text.length() ? text.charAt(b) : 0);
                }
                feed.append(k == at ? "" : ", ").append(four);
            }
            calls.add(feed + ")");
        }
        calls.add("end(" + text.length() + ")");
        calls.add(call);
        calls.add("fault()");
    }

    private static void same(String why, Object x, Object y, Iterable<String> calls) {
        for (String call : calls) {
            due.is(why + ": " + call, Calls.ask(x, call), Calls.ask(y, call));
        }
    }

    private static void fullAsTheModel(String text) {
        HalvingMender x = new HalvingMender();
        Model y = new Model();
        same(text, x, y, filling(text));
        due.is("12 BITS", x.is(0), 12);
        due.is("40 THINGS", Due.drift(new HalvingMender(), THINGS), 40);
        due.is("8 SEEN", x.is(7), 8);
        due.is("the row of the last ACT", x.row(39) != -1000000, true);
        same(text, x, y, List.of(ASKED));
        for (String call : DONE) {
            due.is(text + ": " + call, Calls.ask(x, call), Calls.ask(y, call));
            same(text + " behind " + call, x, y, List.of("is(0)", "is(6)", "is(9)", "is(10)", "is(12)"));
        }
        same(text + " behind all", x, y, List.of(ASKED));
    }

    /** What BITS there were is nothing any more: with three of them it is as a new object with these three. */
    private static void hadMore(String text) {
        HalvingMender x = new HalvingMender();
        for (String call : filling(text)) {
            Calls.ask(x, call);
        }
        HalvingMender y = new HalvingMender();
        y.keep(0);
        for (HalvingMender z : new HalvingMender[] {x, y}) {
            z.back(0);
            Due.text(z, "b1;b2;b4;");
            z.keep(0);
            z.keep(1);
            z.keep(2);
            z.see(0, 1);
            Due.bench(z, "f;=1;");
            z.convert(5);
            z.write();
        }
        due.is("three BITS", x.is(0), 3);
        same("had " + text, x, y, List.of(ASKED));
        for (HalvingMender z : new HalvingMender[] {x, y}) {
            z.draw(2, 100);
            z.convert(3);
        }
        same("had " + text + ", two now", x, y, List.of(ASKED));
    }

    /** An object is used for 512 calls: the last is as the first. */
    private static void fiveHundredAndTwelve() {
        HalvingMender x = Due.of("b1;b2;b4;b8;n1;");
        for (int n = 5; n < 510; n++) {
            due.is("seed", x.seed(n + 1), n == 5 ? 1 : n);
        }
        due.is("call 510", x.set(3, 0), true);
        due.is("call 511", x.convert(9), 9);
        due.is("call 512", x.is(6), 510);
        HalvingMender y = new HalvingMender();
        for (int n = 0; n < 512; n++) {
            due.is("feed", y.feed(n, n, n, n, n), n < 20 ? 20 * n + 20 : -1);
        }
    }
}
