import java.nio.charset.StandardCharsets;
import java.util.NoSuchElementException;

/** What the tests share: texts put on the tape, answers held against those that are due. */
final class Check {
    interface Call {
        long get();
    }

    /** What threw() answers for a call that threw NoSuchElementException. */
    static final long THROWN = Long.MIN_VALUE;

    private static int wrong = 0;
    private static String words = "";

    private Check() {
    }

    /** Tells the document's words that the answers from here on are held against. */
    static void of(String theWords) {
        words = "[" + theWords + "] ";
    }

    static void due(String what, long got, long want) {
        if (got != want) {
            wrong++;
            System.out.println(words + what + " answered " + got + ", due is " + want);
        }
    }

    static void same(String what, String got, String want) {
        if (!got.equals(want)) {
            wrong++;
            int from = 0;
            while (from < Math.min(got.length(), want.length()) && got.charAt(from) == want.charAt(from)) {
                from++;
            }
            from = Math.max(0, from - 40);
            System.out.println(words + what + ": .." + got.substring(from) + ", due is .." + want.substring(from));
        }
    }

    static void due(String what, boolean got, boolean want) {
        due(what, got ? 1 : 0, want ? 1 : 0);
    }

    static void throwsNone(String what, Call call) {
        due(what + " throws", threw(call) == THROWN, true);
    }

    /** The call's answer, or THROWN; any other exception ends the test. */
    static long threw(Call call) {
        try {
            return call.get();
        } catch (NoSuchElementException e) {
            return THROWN;
        }
    }

    /** All that can be asked without changing it, but for what can be undone: some 130 calls. */
    static String all(LostCauses x) {
        StringBuilder text = new StringBuilder();
        for (int what = 0; what < 7; what++) {
            text.append(" now ").append(x.now(what)).append(" count ").append(x.count(what));
        }
        for (int i = 0; i < 6; i++) {
            int c = i;
            text.append(" said ").append(x.said(i)).append(" matched ").append(x.matched(i));
            for (int j = 0; j < 9; j++) {
                int what = j;
                long answer = threw(() -> x.cause(c, what));
                text.append(answer == THROWN ? " throws" : " " + answer);
            }
            for (int what = 0; what < 6; what++) {
                text.append(' ').append(x.clerk(i, what));
            }
        }
        for (int what = 0; what < 4; what++) {
            text.append(" booked ").append(x.booked(what));
        }
        return text.append(" fault ").append(x.fault()).append(" tried ").append(x.tried()).toString();
    }

    /** Puts a text on a tape that is empty. */
    static void tape(LostCauses x, String text) {
        tape(x, text.getBytes(StandardCharsets.ISO_8859_1));
    }

    static void tape(LostCauses x, byte[] bytes) {
        for (int from = 0; from < bytes.length; from += 20) {
            x.feed(number(bytes, from), number(bytes, from + 4), number(bytes, from + 8),
                number(bytes, from + 12), number(bytes, from + 16));
        }
        due("the tape taking " + bytes.length + " bytes", x.end(bytes.length), true);
    }

    private static int number(byte[] bytes, int from) {
        int number = 0;
        for (int i = from; i < from + 4; i++) {
            number = number << 8 | (i < bytes.length ? bytes[i] & 255 : 0);
        }
        return number;
    }

    static LostCauses office(String text) {
        LostCauses x = new LostCauses();
        tape(x, text);
        int lines = x.office();
        due("office of " + text + ": FAULT", lines < 0 ? 1 : 0, 0);
        return x;
    }

    static int ledger(LostCauses x, String text, int lives) {
        tape(x, text);
        return x.ledger(lives);
    }

    static int sentence(LostCauses x, String text) {
        tape(x, text);
        return x.sentence();
    }

    static void finish() {
        if (wrong != 0) {
            System.out.println(wrong + " answers are not as due");
            System.exit(1);
        }
    }
}
