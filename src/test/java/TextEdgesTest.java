/** Terms, THE TEXT, and promises 2 to 5: each limit, the last that is taken and the first that is not. */
public final class TextEdgesTest {
    private static final Due due = new Due("TextEdgesTest");
    private static final String DIGITS = "0123456789";

    public static void main(String[] args) {
        tapeOf400();
        sizes();
        offs();
        weights();
        weightAskedAtItsEnd();
        five();
        asAtFirstWithout();
        onceAtMost();
        howManyBits();
        endsTooEarly();
        firstByteThatStops();
        fault();
        due.end();
    }

    // ---- feed and end ----

    private static void tapeOf400() {
        HalvingMender x = new HalvingMender();
        due.is("end of the empty", x.end(0), 0);
        due.is("end beyond the empty", x.end(1), -1);
        for (int n = 1; n <= 19; n++) {
            due.is("feed", x.feed(n, 0, 0, 0, n), 20 * n);
        }
        due.is("380 and 20 are 400", x.feed(1, 2, 3, 4, 5), 400);
        due.is("400 and 20 are too many", x.feed(1, 2, 3, 4, 5), -1);
        due.is("400 stay", x.is(8), 400);
        due.is("end of all", x.end(400), 400);
        due.is("end beyond all", x.end(401), -1);
        due.is("400 stay", x.is(8), 400);
        due.is("one less", x.end(399), 399);
        due.is("one more again", x.end(400), -1);
        due.is("399 and 20", x.feed(1, 2, 3, 4, 5), -1);
        due.is("to 381", x.end(381), 381);
        due.is("381 and 20", x.feed(1, 2, 3, 4, 5), -1);
        due.is("to 380", x.end(380), 380);
        due.is("380 and 20", x.feed(1, 2, 3, 4, 5), 400);
        due.is("to none", x.end(0), 0);
        due.is("has none", x.is(8), 0);
        due.is("and again", x.feed(1, 2, 3, 4, 5), 20);
        // each of the twenty bytes of -1 is 255, and the highest of a number is the first
        HalvingMender y = new HalvingMender();
        y.feed(-1, 0, 0, 0, 0);
        due.is("255 is no text", y.text(), -1);
        y.feed(0x62313B62, 0x323B0000, 0, 0, Integer.MIN_VALUE);
        y.end(6);
        due.is("the first six bytes", y.text(), 2);
    }

    // ---- items ----

    /** A text with the item at its begin, in it and at its end is well. */
    private static void well(String item) {
        for (String text : new String[] {item + "b1;b2;", "b1;" + item + "b2;", "b1;b2;" + item}) {
            HalvingMender x = new HalvingMender();
            due.is("text '" + text + "'", Due.text(x, text), item.startsWith("b") ? 3 : 2);
            due.is("FAULT of '" + text + "'", x.fault(), -1);
        }
    }

    /** With it there is a FAULT, so far behind its first byte. */
    private static void wrong(String item, int place) {
        for (String ahead : new String[] {"", "b1;", "b1;b2;", "o-1;b1;g2;b2:3;"}) {
            for (String behind : new String[] {"b1;b2;", "x", ";"}) {
                HalvingMender x = new HalvingMender();
                String text = ahead + item + behind;
                if (!ahead.startsWith("o") || item.startsWith("b")) {
                    due.is("text '" + text + "'", Due.text(x, text), -1);
                    due.is("FAULT of '" + text + "'", x.fault(), ahead.length() + place);
                }
            }
        }
    }

    private static void sizes() {
        for (String item : new String[] {"b1;", "b9999;", "b0001;", "b0009;", "b10;", "b100;", "b1000;", "b09;"}) {
            well(item);
        }
        wrong("b0;", 1);
        wrong("b0000;", 1);
        wrong("b00000;", 5);
        wrong("b10000;", 5);
        wrong("b00001;", 5);
        wrong("b99999;", 5);
        wrong("b;", 1);
        wrong("b-1;", 1);
        wrong("b+1;", 1);
        wrong("b 1;", 1);
        wrong("b1 ;", 2);
        wrong("b1,", 2);
        wrong(" b1;", 0);
        wrong("B1;", 0);
        wrong("1;", 0);
        wrong(";", 0);
        HalvingMender x = Due.of("b1;b9999;b0012;");
        due.is("the least SIZE", x.bit(0, 0), 1);
        due.is("the greatest SIZE", x.bit(1, 0), 9999);
        due.is("four digits", x.bit(2, 0), 12);
        for (int i = 0; i < 3; i++) {
            due.is("OFF at first", x.bit(i, 1), 0);
            due.is("WORTH at first its SIZE", x.bit(i, 2), x.bit(i, 0));
            due.is("STUCK at first", x.bit(i, 3), -1);
        }
    }

    private static void offs() {
        for (String item : new String[] {"b1:0;", "b1:-0;", "b1:99;", "b1:0099;", "b100:-99;", "b100:-0099;", "b9999:99;",
            "b9999:-99;", "b1:0000;", "b1:-0000;"}) {
            well(item);
        }
        wrong("b1:100;", 3);
        wrong("b1:0100;", 3);
        wrong("b1:9999;", 3);
        wrong("b200:-100;", 5);
        wrong("b9999:-9999;", 6);
        wrong("b1:00099;", 7);
        wrong("b1:00000;", 7);
        wrong("b100:-00099;", 10);
        wrong("b200:-99999;", 10);
        wrong("b1:;", 3);
        wrong("b100:-;", 6);
        wrong("b100:--1;", 6);
        wrong("b1:+1;", 3);
        wrong("b1: 1;", 3);
        wrong("b1:1:1;", 4);
        wrong("b1:1-;", 4);
        wrong("b1:1 ;", 4);
        // the SIZE is asked ahead of the OFF
        wrong("b0:100;", 1);
        HalvingMender x = Due.of("b1:99;b200:-99;b7:-0;");
        due.is("the greatest OFF", x.bit(0, 1), 99);
        due.is("the least OFF", x.bit(1, 1), -99);
        due.is("-0", x.bit(2, 1), 0);
        due.is("WORTH at first its SIZE, whatever is OFF", x.bit(0, 2), 1);
        due.is("WEIGHT", x.bit(0, 4), 100);
        due.is("WEIGHT", x.bit(1, 4), 101);
    }

    private static void weights() {
        for (String item : new String[] {"b2:-1;", "b50:-49;", "b99:-98;", "b100:-99;"}) {
            well(item);
        }
        wrong("b1:-1;", 0);
        wrong("b2:-2;", 0);
        wrong("b50:-50;", 0);
        wrong("b98:-99;", 0);
        wrong("b99:-99;", 0);
        wrong("b1:-99;", 0);
        due.is("a WEIGHT of 1", Due.of("b100:-99;b1;").bit(0, 4), 1);
    }

    /** Without its ; the WEIGHT is not asked yet: what stands there, or the end, is the FAULT. */
    private static void weightAskedAtItsEnd() {
        for (String behind : new String[] {"", "x", ":", "b", "-", " ", ",", "\0"}) {
            HalvingMender x = new HalvingMender();
            due.is("text", Due.text(x, "b3;b9:-9" + behind), -1);
            due.is("FAULT behind a WEIGHT of 0 and '" + behind + "'", x.fault(), 8);
        }
        HalvingMender x = new HalvingMender();
        Due.text(x, "b3;b9:-9;");
        due.is("FAULT of a WEIGHT of 0 with its ;", x.fault(), 3);
    }

    private static void five() {
        String letters = "drng";
        int[] low = {0, 0, 0, 1};
        int[] high = {50, 3, 20, 64};
        for (int k = 0; k < 4; k++) {
            String letter = letters.substring(k, k + 1);
            for (int v = 0; v <= 70; v++) {
                if (v >= low[k] && v <= high[k]) {
                    well(letter + v + ";");
                    due.is(letter + v, Due.of("b1;b2;" + letter + v + ";").is(k + 2), v);
                } else {
                    wrong(letter + v + ";", 1);
                }
            }
            well(letter + "000" + low[k] + ";");
            wrong(letter + "0000" + low[k] + ";", 5);
            wrong(letter + "9999;", 1);
            wrong(letter + "99999;", 5);
            wrong(letter + ";", 1);
            wrong(letter + "-1;", 1);
            wrong(letter + "-0;", 1);
            wrong(letter + "1:1;", 2);
            wrong(letter + "1,1;", 2);
        }
        for (int v = -110; v <= 110; v++) {
            if (v >= -99 && v <= 99) {
                well("o" + v + ";");
                due.is("o" + v, Due.of("b1;b2;o" + v + ";").is(1), v);
            } else {
                wrong("o" + v + ";", 1);
            }
        }
        well("o-0;");
        well("o-0099;");
        well("o0099;");
        wrong("o-00099;", 6);
        wrong("o00099;", 5);
        wrong("o-9999;", 1);
        wrong("o9999;", 1);
        wrong("o-;", 2);
        wrong("o--1;", 2);
        wrong("o;", 1);
        wrong("o+1;", 1);
        wrong("o1-;", 2);
    }

    /** Each of the five that is not told is as at first, whatever was set ahead. */
    private static void asAtFirstWithout() {
        String[] items = {"o-9;", "d9;", "r1;", "n9;", "g9;"};
        int[] set = {-9, 9, 1, 9, 9};
        int[] first = {0, 0, 3, 0, 1};
        boolean again = false;
        for (int without : new int[] {0, 0, 1, 1, 2, 2, 3, 3, 4, 4}) {
            HalvingMender x = new HalvingMender();
            StringBuilder text = new StringBuilder("b1;b2;");
            for (int k = 0; k < 5; k++) {
                x.set(k, set[k] < 0 ? 7 : k == 2 ? 2 : 7);
                text.append(k == without ? "" : items[k]);
            }
            again = !again;
            if (again) {
                // a text ahead that tells all, or is a FAULT, is nothing for the next one
                Due.text(x, "b1;b2;o-8;d8;r0;n8;g8;");
                Due.text(x, "b1;b2;o-8;d8;r0;n8;g8;b0;");
            }
            due.is("text", Due.text(x, text.toString()), 2);
            for (int k = 0; k < 5; k++) {
                due.is(text + " is(" + (k + 1) + ")", x.is(k + 1), k == without ? first[k] : set[k]);
            }
        }
    }

    private static void onceAtMost() {
        due.is("each once", Due.of("g64;b1;n20;r0;b2;d50;o-99;").is(5), 64);
        String letters = "odrng";
        for (int k = 0; k < 5; k++) {
            String item = letters.charAt(k) + "1;";
            String letter = letters.substring(k, k + 1);
            for (String behind : new String[] {item, letter, letter + "x", item + "b2;b3;"}) {
                HalvingMender x = new HalvingMender();
                due.is("twice", Due.text(x, item + "b1;b2;" + behind), -1);
                due.is("FAULT of a second " + behind, x.fault(), 9);
                due.is("twice, side by side", Due.text(x, "b1;" + item + behind), -1);
                due.is("FAULT of a second " + behind, x.fault(), 6);
            }
        }
        // in a text of its own it is the first again
        HalvingMender x = Due.of("b1;b2;o1;d1;r1;n1;g1;");
        due.is("again", Due.text(x, "b1;b2;o2;d2;r2;n2;g2;"), 2);
        due.is("OFFSET", x.is(1), 2);
    }

    private static void howManyBits() {
        HalvingMender x = new HalvingMender();
        due.is("none", Due.text(x, ""), -1);
        due.is("FAULT of the empty", x.fault(), 0);
        due.is("five, no BITS", Due.text(x, "o1;d1;r1;n1;g1;"), -1);
        due.is("FAULT: its length", x.fault(), 15);
        due.is("one", Due.text(x, "b1;"), -1);
        due.is("FAULT: its length", x.fault(), 3);
        due.is("one and the five", Due.text(x, "o1;b7;d1;r1;n1;g1;"), -1);
        due.is("FAULT: its length", x.fault(), 18);
        for (int bits = 2; bits <= 12; bits++) {
            due.is("BITS", Due.text(x, "b3;".repeat(bits)), bits);
            due.is("is(0)", x.is(0), bits);
            due.is("FAULT", x.fault(), -1);
            due.is("the last BIT", x.bit(bits - 1, 0), 3);
            due.is("none behind", x.bit(bits, 0), -100000);
        }
        for (String thirteenth : new String[] {"b3;", "b", "b0;", "b3", "bx", "b12345;", "b9:-9;", "b3;b3;"}) {
            due.is("a 13th", Due.text(x, "b3;".repeat(12) + thirteenth), -1);
            due.is("FAULT of a 13th " + thirteenth, x.fault(), 36);
            due.is("a 13th behind", Due.text(x, "b3;".repeat(11) + "o-1;b3;g2;" + thirteenth), -1);
            due.is("FAULT of a 13th behind " + thirteenth, x.fault(), 43);
        }
        due.is("twelve and the five", Due.text(x, "b3;".repeat(12) + "o1;d1;r1;n1;g1;"), 12);
        due.is("twelve as long as they may be",
            Due.text(x, "b9999:-0099;".repeat(12) + "o-0099;d0050;r0003;n0020;g0064;"), 12);
        due.is("REACH", x.is(9), 12 * 9900);
        due.is("WORTHS", x.is(10), 12 * 9999);
    }

    // ---- the FAULT ----

    private static void endsTooEarly() {
        String text = "b12:-3;o-45;d6;b7;r2;n18;b1:99;g64;";
        for (int n = 0; n <= text.length(); n++) {
            String part = text.substring(0, n);
            int bits = part.length() - part.replace("b", "").length();
            boolean whole = part.endsWith(";") && bits >= 2;
            HalvingMender x = new HalvingMender();
            due.is("text '" + part + "'", Due.text(x, part), whole ? bits : -1);
            due.is("FAULT of '" + part + "'", x.fault(), whole ? -1 : n);
        }
    }

    /** Of all bytes behind what is ahead, each that is none of the signs is the FAULT. */
    private static void stops(String ahead, String signs, String behind) {
        for (int v = 0; v < 256; v++) {
            if (signs.indexOf(v) < 0) {
                HalvingMender x = new HalvingMender();
                String text = ahead + (char) v + behind;
                due.is("text", Due.text(x, text), -1);
                due.is("FAULT of '" + ahead + "' and byte " + v, x.fault(), ahead.length());
            }
        }
    }

    /** As that, and each sign is not. */
    private static void stopsAlone(String ahead, String signs, String behind) {
        stops(ahead, signs, behind);
        for (int k = 0; k < signs.length(); k++) {
            HalvingMender x = new HalvingMender();
            Due.text(x, ahead + signs.charAt(k) + behind);
            due.is("'" + ahead + signs.charAt(k) + behind + "' goes on", x.fault() != ahead.length(), true);
        }
    }

    private static void firstByteThatStops() {
        stopsAlone("", "bodrng", "");
        stopsAlone("b1;b2;", "bodrng", "");
        stopsAlone("b1;b2;o1;g2;", "bdrn", "");
        stopsAlone("b1;b", DIGITS, "1;");
        stopsAlone("b1;b1", DIGITS + ":;", "");
        stopsAlone("b1;b12", DIGITS + ":;", "");
        stopsAlone("b1;b123", DIGITS + ":;", "");
        stopsAlone("b1;b1234", ":;", "");
        stopsAlone("b1;b900:", DIGITS + "-", "1;");
        stopsAlone("b1;b900:-", DIGITS, ";");
        stopsAlone("b1;b900:-0", DIGITS + ";", "");
        stopsAlone("b1;b900:-000", DIGITS + ";", "");
        stopsAlone("b1;b900:-0000", ";", "");
        stopsAlone("b1;b900:0012", ";", "");
        stopsAlone("o", DIGITS + "-", "1;");
        stopsAlone("o-", DIGITS, ";");
        stopsAlone("o-1", DIGITS + ";", "");
        stopsAlone("o0012", ";", "");
        stopsAlone("o-0012", ";", "");
        stopsAlone("d", DIGITS, ";");
        stopsAlone("n", DIGITS, ";");
        stops("r", DIGITS, ";");
        stops("g", DIGITS, ";");
        for (String letter : new String[] {"d", "r", "n", "g"}) {
            stopsAlone(letter + "001", DIGITS + ";", "");
            stopsAlone(letter + "0001", ";", "");
        }
    }

    private static void fault() {
        HalvingMender x = new HalvingMender();
        due.is("ahead of any", x.fault(), -1);
        Due.text(x, "b1;b2;b");
        due.is("its length", x.fault(), 7);
        x.set(0, 100);
        x.convert(0);
        due.is("by no other call", x.fault(), 7);
        Due.text(x, "b1;b2;");
        due.is("that was well", x.fault(), -1);
        Due.text(x, "");
        due.is("of the empty text", x.fault(), 0);
        Due.drift(x, "");
        due.is("the empty DRIFT is well", x.fault(), -1);
        Due.drift(x, "+");
        due.is("at the first byte", x.fault(), 0);
        Due.bench(x, "");
        due.is("the empty BENCH is well", x.fault(), -1);
        // a tape of 400 bytes: a FAULT at its last, and at its length
        Due.bench(x, "o0011,-001;".repeat(36) + "f;f:");
        due.is("at byte 399", x.fault(), 399);
        Due.bench(x, "o0011,-001;".repeat(36) + "f;f;");
        due.is("400 bytes are well", x.fault(), -1);
        Due.bench(x, "o0011,-001;".repeat(36) + "f;h1");
        due.is("at its length", x.fault(), 400);
    }
}
