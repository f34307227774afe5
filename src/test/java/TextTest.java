/** Promises 4 and 5: text and fault. */
public final class TextTest {
    private static final Due due = new Due("TextTest");

    public static void main(String[] args) {
        told();
        asAtFirstWithout();
        whatStaysAndWhatNot();
        faultLeavesAll();
        faults();
        fifthDigits();
        severalOfOneKind();
        faultOfTheLatest();
        due.end();
    }

    private static void told() {
        HalvingMender x = new HalvingMender();
        due.is("text", Due.text(x, "g64;b7:-6;d50;b9999:99;r0;n20;o-99;b0003;"), 3);
        int[] is = {3, -99, 50, 0, 20, 64};
        for (int what = 0; what < is.length; what++) {
            due.is("is(" + what + ")", x.is(what), is[what]);
        }
        int[] sizes = {7, 9999, 3};
        int[] offs = {-6, 99, 0};
        for (int i = 0; i < 3; i++) {
            due.is("SIZE " + i, x.bit(i, 0), sizes[i]);
            due.is("OFF " + i, x.bit(i, 1), offs[i]);
            due.is("WORTH " + i, x.bit(i, 2), sizes[i]);
            due.is("STUCK " + i, x.bit(i, 3), -1);
        }
        due.is("twelve", Due.text(x, "b1;b2;b3;b4;b5;b6;b7;b8;b9;b10;b11;b12;o99;g1;d0;r3;n0;"), 12);
        due.is("-0", Due.text(x, "b1:-0;b1;o-0;"), 2);
        due.is("OFF of -0", x.bit(0, 1), 0);
    }

    private static void asAtFirstWithout() {
        HalvingMender x = Due.of("b1;b2;o5;d5;r1;n5;g5;");
        x.stick(0, 1);
        x.off(0, 3);
        x.learn(1, 1);
        Due.text(x, "b1;b2;");
        int[] is = {2, 0, 0, 3, 0, 1};
        for (int what = 0; what < is.length; what++) {
            due.is("without, is(" + what + ")", x.is(what), is[what]);
        }
        due.is("STUCK no more", x.bit(0, 3), -1);
        due.is("OFF no more", x.bit(0, 1), 0);
        due.is("WORTHS are SIZES", x.bit(1, 2), 2);
    }

    private static void whatStaysAndWhatNot() {
        HalvingMender x = Due.of("b1;b2;");
        x.seed(77);
        x.heat(9);
        Due.drift(x, "h");
        x.see(1, 1);
        x.convert(3);
        x.write();
        x.pass(3);
        due.is("text again", Due.text(x, "b10;b20;"), 2);
        due.is("X stays", x.is(6), 77);
        due.is("HEAT stays", x.is(11), 9);
        due.is("HOUR stays", x.is(12), 3);
        due.is("SEEN is nothing", x.is(7), 0);
        due.is("no CONVERSION was", x.converted(0), -1000000);
        due.is("no DECISION", x.decision(0, 0), -1000000);
        due.is("nothing to write", x.write(), -1);
        due.is("what was written stays", x.octet(0), '1');
        x.pass(1);
        due.is("DRIFT stays", x.bit(0, 1), 9);
    }

    private static void faultLeavesAll() {
        HalvingMender x = Due.of("b1;b2;o5;");
        x.see(1, 1);
        x.convert(3);
        x.stick(1, 0);
        due.is("a FAULT", Due.text(x, "b9;b9;o7;d7;x"), -1);
        due.is("BITS stay", x.bit(0, 0), 1);
        due.is("OFFSET stays", x.is(1), 5);
        due.is("BAND stays", x.is(2), 0);
        due.is("STUCK stays", x.bit(1, 3), 0);
        due.is("SEEN stays", x.is(7), 1);
        due.is("the CONVERSION stays", x.converted(0), 3);
        due.is("the tape is empty", x.is(8), 0);
    }

    private static void faults() {
        String[] texts = {"", "b1;", "b", "b1", "b1;b", "b0;b2;", "b-1;", "b12345;", "b1:;", "b1:-;", "b1:1", "b1:-1;b2;",
            "b1:-1", "b1:-1x", "b1:100;", "b200:-100;", "b200:-099;b2;g0;", "b1 ;", "o100;", "o-100;", "o;", "o-", "o-;",
            "d51;", "d-1;", "r4;", "r-1;", "n21;", "n-1;", "g0;", "g65;", "g-1;", "B1;", "b1;b2;;", "b1,", ";", " b1;",
            "b5:-5;", "b2;b5:-5;", "b5:-5x", "b5:-4;b5:-6;", "d51x", "d9999", "o12345;", "b1;b2;d1", "b1:2:3;", "b1:+1;", "b10000;",
            "b1;b1;o99999;", "b:1;"};
        int[] places = {0, 3, 1, 2, 4, 1, 1, 5, 3, 4, 4, 0,
            5, 5, 3, 5, 14, 2, 1, 1, 1, 2, 2,
            1, 1, 1, 1, 1, 1, 1, 1, 1, 0, 6, 2, 0, 0,
            0, 3, 5, 6, 1, 1, 5, 8, 4, 3, 5,
            11, 1};
        HalvingMender x = Due.of("b1;b2;");
        for (int n = 0; n < texts.length; n++) {
            due.is("text '" + texts[n] + "'", Due.text(x, texts[n]), -1);
            due.is("FAULT of '" + texts[n] + "'", x.fault(), places[n]);
        }
    }

    /** A number is asked whether it is as told when it has ended; a fifth digit is a FAULT ahead of that. */
    private static void fifthDigits() {
        String[] texts = {"b3;b2;g651234", "b3;b2;g651234\0\0\0", "b00001;", "b00000", "b1:99999;", "b1:-99999", "b200:-09999;",
            "b1:100000;", "o-12345;", "o00001;", "d00005;", "d12345", "r00003;", "r99999x", "n00001;", "n654321", "g00001;",
            "b1;b2;b3:-00009;", "b0000", "b0000;", "b0000x", "b0000:11111;", "b1:0100", "o-0100;", "d0051", "g0000-"};
        int[] places = {11, 11, 5, 5, 7, 8, 10,
            7, 6, 5, 5, 5, 5, 5, 5, 5, 5,
            14, 1, 1, 1, 1, 3, 1, 1, 1};
        HalvingMender x = Due.of("b1;b2;");
        for (int n = 0; n < texts.length; n++) {
            due.is("text '" + texts[n] + "'", Due.text(x, texts[n]), -1);
            due.is("FAULT of '" + texts[n] + "'", x.fault(), places[n]);
        }
    }

    private static void severalOfOneKind() {
        HalvingMender x = new HalvingMender();
        String twelve = "b1;b2;b3;b4;b5;b6;b7;b8;b9;b8;b7;b6;";
        due.is("twelve", Due.text(x, twelve), 12);
        due.is("a 13th", Due.text(x, twelve + "b5;"), -1);
        due.is("at its first byte", x.fault(), 36);
        due.is("a 13th that only begins", Due.text(x, twelve + "b"), -1);
        due.is("at its first byte, too", x.fault(), 36);
        due.is("behind a setting", Due.text(x, twelve + "g2;b0;"), -1);
        due.is("at its first byte there", x.fault(), 39);
        for (String letter : new String[] {"o", "d", "r", "n", "g"}) {
            due.is("twice " + letter, Due.text(x, "b1;" + letter + "1;b2;" + letter), -1);
            due.is("twice " + letter + ", where", x.fault(), 9);
        }
    }

    private static void faultOfTheLatest() {
        HalvingMender x = new HalvingMender();
        Due.text(x, "b1;");
        due.is("of text", x.fault(), 3);
        Due.drift(x, "1+");
        due.is("of drift", x.fault(), 2);
        Due.bench(x, "c1;c");
        due.is("of bench", x.fault(), 4);
        Due.drift(x, "1+1");
        due.is("drift was well", x.fault(), -1);
        Due.text(x, "b");
        due.is("of text again", x.fault(), 1);
        Due.bench(x, "c1;");
        due.is("bench was well, though its ACT was refused", x.fault(), -1);
        Due.text(x, "b1;b1;");
        due.is("text was well", x.fault(), -1);
    }
}
