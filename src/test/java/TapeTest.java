/** Promises 1 to 3: a new object, feed, end. */
public final class TapeTest {
    private static final Due due = new Due("TapeTest");

    public static void main(String[] args) {
        newObject();
        feed();
        end();
        bytesInOrder();
        due.end();
    }

    private static void newObject() {
        HalvingMender x = new HalvingMender();
        int[] first = {0, 0, 0, 3, 0, 1, 1, 0, 0, 0, 0, 0, 0};
        for (int what = 0; what < first.length; what++) {
            due.is("new is(" + what + ")", x.is(what), first[what]);
        }
        due.is("new is(-1)", x.is(-1), -100000);
        due.is("new is(13)", x.is(13), -100000);
        due.is("new code", x.code(0), -1000000);
        due.is("new convert", x.convert(0), -1000000);
        due.is("new stopped", x.stopped(), -1);
        due.is("new fault", x.fault(), -1);
        due.is("new row", x.row(0), -1000000);
        due.is("new octet", x.octet(0), -1);
        due.is("NONE", HalvingMender.NONE, -1);
    }

    private static void feed() {
        HalvingMender x = new HalvingMender();
        for (int n = 1; n <= 20; n++) {
            due.is("feed " + n, x.feed(n, n, n, n, n), n * 20);
        }
        due.is("feed beyond 400", x.feed(1, 1, 1, 1, 1), -1);
        due.is("bytes stay", x.is(8), 400);
        due.is("end 381", x.end(381), 381);
        due.is("feed to 401", x.feed(1, 1, 1, 1, 1), -1);
        due.is("none come", x.is(8), 381);
        due.is("end 380", x.end(380), 380);
        due.is("feed to 400", x.feed(1, 1, 1, 1, 1), 400);
    }

    private static void end() {
        HalvingMender x = new HalvingMender();
        due.is("end of nothing", x.end(0), 0);
        due.is("end beyond nothing", x.end(1), -1);
        x.feed(0, 0, 0, 0, 0);
        due.is("end below 0", x.end(-1), -1);
        due.is("end beyond", x.end(21), -1);
        due.is("nothing is done", x.is(8), 20);
        due.is("end of all", x.end(20), 20);
        due.is("end 7", x.end(7), 7);
        due.is("has 7", x.is(8), 7);
        due.is("end least", x.end(Integer.MIN_VALUE), -1);
    }

    /** "b1;b2;b3;b4;b5;b6;b7;" told by its numbers: each byte of each number counts. */
    private static void bytesInOrder() {
        HalvingMender x = new HalvingMender();
        x.feed(0x62313B62, 0x323B6233, 0x3B62343B, 0x62353B62, 0x363B6237);
        x.feed(0x3B626262, 0, 0, 0, 0);
        x.end(21);
        due.is("text", x.text(), 7);
        for (int i = 0; i < 7; i++) {
            due.is("SIZE of " + i, x.bit(i, 0), i + 1);
        }
        due.is("the tape is empty", x.is(8), 0);
        x.feed(0xFF000000, 0, 0, 0, 0);
        x.end(1);
        due.is("byte 255 is no text", x.text(), -1);
        due.is("byte 255 fault", x.fault(), 0);
        due.is("behind a FAULT the tape is empty", x.is(8), 0);
    }
}
