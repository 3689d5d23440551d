import java.nio.charset.StandardCharsets;
import java.util.NoSuchElementException;

/** What the tests share: texts put on the tape, answers held against those that are due. */
final class Check {
    interface Call {
        long get();
    }

    /** What threw() answers for a call that threw NoSuchElementException. */
    static final long THROWN = Long.MIN_VALUE;

    private static int wrong = 0;

    private Check() {
    }

    static void due(String what, long got, long want) {
        if (got != want) {
            wrong++;
            System.out.println(what + " answered " + got + ", due is " + want);
        }
    }

    static void due(String what, boolean got, boolean want) {
        due(what, got ? 1 : 0, want ? 1 : 0);
    }

    static void throwsNone(String what, Call call) {
        due(what + " throws", threw(call) == THROWN, true);
    }

    /** The call's answer, or THROWN; any other exception ends the test. */
    static long threw(Call call) {
        try {
            return call.get();
        } catch (NoSuchElementException e) {
            return THROWN;
        }
    }

    /** Puts a text on a tape that is empty. */
    static void tape(LostCauses x, String text) {
        tape(x, text.getBytes(StandardCharsets.ISO_8859_1));
    }

    static void tape(LostCauses x, byte[] bytes) {
        for (int from = 0; from < bytes.length; from += 20) {
            x.feed(number(bytes, from), number(bytes, from + 4), number(bytes, from + 8),
                number(bytes, from + 12), number(bytes, from + 16));
        }
        due("the tape taking " + bytes.length + " bytes", x.end(bytes.length), true);
    }

    private static int number(byte[] bytes, int from) {
        int number = 0;
        for (int i = from; i < from + 4; i++) {
            number = number << 8 | (i < bytes.length ? bytes[i] & 255 : 0);
        }
        return number;
    }

    static LostCauses office(String text) {
        LostCauses x = new LostCauses();
        tape(x, text);
        int lines = x.office();
        due("office of " + text + ": FAULT", lines < 0 ? 1 : 0, 0);
        return x;
    }

    static int ledger(LostCauses x, String text, int lives) {
        tape(x, text);
        return x.ledger(lives);
    }

    static int sentence(LostCauses x, String text) {
        tape(x, text);
        return x.sentence();
    }

    static void finish() {
        if (wrong != 0) {
            System.out.println(wrong + " answers are not as due");
            System.exit(1);
        }
    }
}
