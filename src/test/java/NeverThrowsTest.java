import java.util.Random;

/** No call of the face throws but as the document says, whatever it is given and whatever is so. */
public final class NeverThrowsTest {
    private static final int[] GIVEN = {-1, 0, 1, 2, 3, 4, 5, 6, 7, 8, 9, 40, 41, 50, 51, 63, 64, -2, -1000, 1 << 30,
        Integer.MIN_VALUE, Integer.MIN_VALUE + 1, Integer.MAX_VALUE, Integer.MAX_VALUE - 1};
    private static final String[] OFFICES = {"", "clerk k 9;", "cause a 0 1 1 1;", "deed d 20 20 20;",
        "line 1 99;coin 999;cause a 99 1 99 20;cause b 0 99 99 20;cause c 0 1 1 1;cause d 99 99 99 20;cause e 0 50 9 9;"
            + "cause f 0 99 9 2;rumour a 0 99;rumour b 99 1;rumour c 1 1;rumour d 0 1;rumour e 1 1;rumour f 0 99;"
            + "deed u 20 0 20;deed v 0 20 0;deed w 1 0 1;deed x 0 1 0;deed y 20 20 20;deed z 0 0 0;"
            + "clerk k 9;clerk l 1;clerk m 5;clerk n 9;clerk o 9;"};

    public static void main(String[] args) {
        for (String office : OFFICES) {
            for (int moment = 0; moment < 4; moment++) {
                for (int first : GIVEN) {
                    LostCauses x = at(office, moment);
                    withOne(x, first);
                    for (int second : GIVEN) {
                        withTwo(x, first, second);
                    }
                }
            }
        }
        strewnBytes();
        Check.finish();
    }

    /** The OFFICE at its begin, in its midst, and when all WEEKS are over. */
    private static LostCauses at(String office, int moment) {
        LostCauses x = Check.office(office);
        if (moment > 0) {
            x.drawn(50, 11);
            x.image(0);
            x.match();
            Check.sentence(x, "open or taken");
        }
        if (moment > 1) {
            x.take(0, 1);
            x.act(0, 1);
        }
        if (moment > 2) {
            for (int i = 0; i < 4; i++) {
                x.weeks(50);
            }
        }
        return x;
    }

    private static void withOne(LostCauses x, int n) {
        x.end(n);
        x.now(n);
        x.matched(n);
        x.rests(n);
        x.parts(n);
        x.plot(n);
        x.best(n);
        x.pay(n);
        x.dies(n);
        x.booked(n);
        x.said(n);
        x.count(n);
        x.flags(n);
        x.ledger(n);
        x.restore(n);
        x.image(n);
        x.drop(n);
        x.weeks(n);
        x.saddest();
        x.tried();
        x.fault();
        x.match();
        x.undo();
    }

    private static void withTwo(LostCauses x, int n, int m) {
        Check.threw(() -> x.cause(n, m));
        Check.threw(() -> x.odds(n, m));
        Check.threw(() -> x.value(n, m));
        Check.threw(() -> x.fair(n, m));
        x.deed(n, m);
        x.clerk(n, m);
        x.take(n, m);
        x.act(n, m);
        x.nearest(n, m);
        x.near(n, m);
        x.orders(n, m);
        x.ways(n, m);
        x.school(n, m);
        x.drawn(n, m);
        x.risk(n, m);
        x.feed(n, m, n, m, n);
        x.undo();
    }

    private static void strewnBytes() {
        Random random = new Random(5);
        String[] words = {"line ", "coin ", "cause ", "rumour ", "deed ", "clerk ", "takes ", "does ", "drops", "week ", "or ",
            "and ", "not ", "open ", "had ", "near", "number", "<", "(", ")", ";", "5 ", "1 ", "99 ", "a ", "d ", "k ", "\u00ff"};
        for (int run = 0; run < 3000; run++) {
            LostCauses x = at(OFFICES[run % OFFICES.length], 0);
            StringBuilder text = new StringBuilder();
            int size = random.nextInt(3) == 0 ? 941 : random.nextInt(60);
            while (text.length() < size) {
                if (random.nextInt(9) == 0) {
                    text.append((char) random.nextInt(256));
                } else {
                    text.append(words[random.nextInt(words.length)]);
                }
            }
            text.setLength(Math.min(text.length(), 940));
            Check.tape(x, text.toString());
            x.office();
            Check.tape(x, text.toString());
            x.sentence();
            Check.tape(x, text.toString());
            x.ledger(run % 2);
            Check.tape(x, text.toString());
            x.flags(0);
            x.said(-1);
        }
    }
}
