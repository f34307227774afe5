/** What the tests share: answers that are due, and texts put on the tape. */
final class Due {
    private final String name;
    private int asked = 0;
    private int wrong = 0;

    Due(String name) {
        this.name = name;
    }

    void is(String call, long got, long want) {
        asked++;
        if (got != want) {
            wrong++;
            System.out.println(name + ": " + call + " answered " + got + ", due is " + want);
        }
    }

    void is(String call, boolean got, boolean want) {
        is(call, got ? 1 : 0, want ? 1 : 0);
    }

    void end() {
        System.out.println(name + ": " + asked + " asked, " + wrong + " wrong");
        if (wrong > 0 || asked == 0) {
            System.exit(1);
        }
    }

    /** The tape is this text alone then. */
    static void tape(HalvingMender x, String text) {
        x.end(0);
        for (int at = 0; at < text.length(); at += 20) {
            x.feed(four(text, at), four(text, at + 4), four(text, at + 8), four(text, at + 12), four(text, at + 16));
        }
        x.end(text.length());
    }

    private static int four(String text, int at) {
        int value = 0;
        for (int k = at; k < at + 4; k++) {
            value = value << 8 | (k < text.length() ? text.charAt(k) : 0);
        }
        return value;
    }

    static int text(HalvingMender x, String text) {
        tape(x, text);
        return x.text();
    }

    static int drift(HalvingMender x, String text) {
        tape(x, text);
        return x.drift();
    }

    static int bench(HalvingMender x, String text) {
        tape(x, text);
        return x.bench();
    }

    static HalvingMender of(String text) {
        HalvingMender x = new HalvingMender();
        if (text(x, text) == HalvingMender.NONE) {
            throw new IllegalStateException("a FAULT at " + x.fault() + " of " + text);
        }
        return x;
    }
}
