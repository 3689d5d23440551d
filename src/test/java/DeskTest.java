/** Promises 6 to 15, 26 and 31 to 33: CAUSES, CLERKS, what is done for them, WEEKS, what is undone. */
public final class DeskTest {
    static final String OFFICE = "line 1 5;coin 10;cause ann 1 19 90 3;cause bob 3 9 40 6;cause col 0 5 20 1;"
        + "rumour ann 4 20;deed cry 2 1 3;deed sue 3 0 4;deed nap 0 5 0;clerk max 2;clerk eva 1;";

    public static void main(String[] args) {
        asTold();
        fractions();
        noSuchOnes();
        taking();
        doing();
        dropping();
        weeksGoBy();
        disgrace();
        openAgain();
        believers();
        allWeeksOver();
        undoing();
        sadness();
        Check.finish();
    }

    private static void causes(LostCauses x, int c, int... due) {
        for (int what = 0; what < due.length; what++) {
            Check.due("cause(" + c + "," + what + ")", x.cause(c, what), due[what]);
        }
    }

    private static void clerks(LostCauses x, int k, int... due) {
        for (int what = 0; what < due.length; what++) {
            Check.due("clerk(" + k + "," + what + ")", x.clerk(k, what), due[what]);
        }
    }

    private static void nows(LostCauses x, int... due) {
        for (int what = 0; what < due.length; what++) {
            Check.due("now(" + what + ")", x.now(what), due[what]);
        }
    }

    private static void asTold() {
        LostCauses x = Check.office(OFFICE);
        causes(x, 0, 1, 19, 90, 3, 0, -1, 0, -1, 250);
        causes(x, 1, 3, 9, 40, 6, 0, -1, 0, -1, 1250);
        causes(x, 2, 0, 5, 20, 1, 0, -1, 0, -1, 0);
        clerks(x, 0, 2, 2, -1, 0, 0, 0);
        clerks(x, 1, 1, 1, -1, 0, 0, 0);
        nows(x, 0, 10, 0, 0, 0, -1, 0);
        int[][] deeds = {{2, 1, 3}, {3, 0, 4}, {0, 5, 0}};
        for (int d = 0; d < 3; d++) {
            for (int what = 0; what < 3; what++) {
                Check.due("deed(" + d + "," + what + ")", x.deed(d, what), deeds[d][what]);
            }
        }
    }

    private static void fractions() {
        LostCauses x = Check.office("cause a 6 90 1 1;cause b 0 7 1 1;cause c 99 99 1 1;");
        Check.due("odds above", x.odds(0, 0), 1);
        Check.due("odds below", x.odds(0, 1), 16);
        Check.due("fair above", x.fair(0, 0), 15);
        Check.due("fair below", x.fair(0, 1), 1);
        Check.due("odds of 0 above", x.odds(1, 0), 0);
        Check.due("odds of 0 below", x.odds(1, 1), 1);
        Check.due("even odds", x.odds(2, 1), 2);
        Check.due("even bet", x.fair(2, 0), 1);
        Check.throwsNone("fair without FOR", () -> x.fair(1, 0));
        Check.throwsNone("fair(0,2)", () -> x.fair(0, 2));
        Check.throwsNone("fair(3,0)", () -> x.fair(3, 0));
        Check.throwsNone("fair(-1,0)", () -> x.fair(-1, 0));
        Check.throwsNone("odds(0,2)", () -> x.odds(0, 2));
        Check.throwsNone("odds(0,-1)", () -> x.odds(0, -1));
        Check.throwsNone("odds(3,0)", () -> x.odds(3, 0));
        Check.throwsNone("odds(-1,0)", () -> x.odds(-1, 0));
    }

    private static void noSuchOnes() {
        LostCauses x = Check.office(OFFICE);
        int far = Integer.MAX_VALUE;
        int low = Integer.MIN_VALUE;
        Check.throwsNone("cause(3,0)", () -> x.cause(3, 0));
        Check.throwsNone("cause(-1,0)", () -> x.cause(-1, 0));
        Check.throwsNone("cause(0,9)", () -> x.cause(0, 9));
        Check.throwsNone("cause(0,-1)", () -> x.cause(0, -1));
        Check.throwsNone("cause(far,low)", () -> x.cause(far, low));
        long[] got = {x.deed(3, 0), x.deed(-1, 0), x.deed(0, 3), x.deed(0, -1), x.deed(far, low),
            x.clerk(2, 0), x.clerk(-1, 0), x.clerk(0, 6), x.clerk(0, -1), x.clerk(low, far),
            x.now(7), x.now(-1), x.now(far), x.now(low),
            x.take(2, 0), x.take(-1, 0), x.take(0, 3), x.take(0, -1), x.take(far, far),
            x.act(2, 0), x.act(-1, 0), x.act(0, 3), x.act(0, -1), x.act(low, low),
            x.drop(2), x.drop(-1), x.drop(far), x.weeks(0), x.weeks(51), x.weeks(low),
            x.pay(3), x.pay(-1), x.dies(3), x.dies(-1), x.undo()};
        for (int i = 0; i < got.length; i++) {
            Check.due("no such one, number " + i, got[i], -1);
        }
    }

    private static void taking() {
        LostCauses x = Check.office(OFFICE);
        Check.due("take what is not SAFE", x.take(0, 1), 3);
        Check.due("take", x.take(0, 0), 0);
        causes(x, 0, 1, 19, 90, 3, 1, 0, 0, -1, 250);
        clerks(x, 0, 2, 2, 0, 0, 0, 0);
        Check.due("take a second one, itself", x.take(0, 0), 1);
        Check.due("take a second one", x.take(0, 1), 1);
        Check.due("take a taken one", x.take(1, 0), 2);
        Check.due("take another", x.take(1, 2), 0);
        causes(x, 2, 0, 5, 20, 1, 1, 1);
    }

    private static void doing() {
        LostCauses x = Check.office(OFFICE);
        Check.due("act without a CAUSE", x.act(0, 0), 1);
        x.take(0, 0);
        x.take(1, 2);
        Check.due("act", x.act(0, 1), 0);
        causes(x, 0, 4, 19, 90, 3, 1, 0, 2, -1, 869);
        clerks(x, 0, 1, 2, 0, 1, 1, 0);
        nows(x, 0, 6, 0, 0, 1, -1, 0);
        Check.due("the same again", x.act(0, 1), 2);
        Check.due("a second one in this WEEK", x.act(0, 0), 4);
        Check.due("another CLERK's", x.act(1, 2), 0);
        Check.due("no zeal left, ahead of a second one in this WEEK", x.act(1, 0), 3);
        Check.due("weeks", x.weeks(1), 1);
        clerks(x, 0, 1, 2, 0, 1, 0, 0);
        clerks(x, 1, 0, 1, 2, 1, 0, 0);
        Check.due("still no zeal", x.act(1, 0), 3);
        Check.due("a DEED done again in another WEEK", x.act(1, 2), 2);
        Check.due("weeks", x.weeks(1), 1);
        clerks(x, 0, 2, 2);
        clerks(x, 1, 1, 1);
        Check.due("a third", x.act(0, 0), 0);
        Check.due("coin left", x.now(1), 3);
        Check.due("COST above the coin", x.act(1, 1), 5);
        Check.due("COST as the coin", x.act(1, 0), 0);
        Check.due("no coin left", x.now(1), 0);
    }

    private static void dropping() {
        LostCauses x = Check.office(OFFICE);
        Check.due("drop without a CAUSE", x.drop(0), 1);
        x.take(0, 0);
        x.act(0, 1);
        Check.due("pay", x.pay(0), 78);
        Check.due("drop", x.drop(0), 0);
        causes(x, 0, 4, 19, 90, 3, 2, -1, 2, 869, 869);
        clerks(x, 0, 1, 2, -1, 1, 1, 78);
        nows(x, 0, 84, 0, 0, 1, -1, 1);
        Check.due("a dropped one is not open", x.take(1, 0), 2);
        Check.due("pay of a dropped one", x.pay(0), 78);
        Check.due("pay of one that is not SAFE", x.pay(1), 0);

        LostCauses y = Check.office(OFFICE);
        y.weeks(2);
        y.take(0, 0);
        y.weeks(2);
        Check.due("drop in a fifth WEEK", y.drop(0), 2);
        Check.due("drop of none in a fifth WEEK", y.drop(1), 1);
        y.weeks(1);
        y.act(0, 1);
        y.weeks(1);
        y.act(0, 0);
        Check.due("not SAFE", y.cause(0, 8), 1153);
        Check.due("drop of one that is not SAFE", y.drop(0), 0);
        causes(y, 0, 6, 20, 90, 5, 2, -1, 3, 1153, 1153);
        nows(y, 6, 3, 0, 6, 2, -1, 1);
    }

    private static void weeksGoBy() {
        LostCauses x = Check.office("cause a 0 9 9 2;cause b 0 9 9 19;cause c 9 9 9 3;clerk k 3;clerk l 9;");
        x.take(1, 1);
        Check.due("weeks", x.weeks(1), 1);
        causes(x, 0, 0, 9, 9, 1, 0);
        causes(x, 1, 0, 9, 9, 20, 1, 1);
        causes(x, 2, 9, 9, 9, 2, 0);
        Check.due("dies", x.dies(0), 1);
        Check.due("dies of a taken one", x.dies(1), -1);
        Check.due("weeks", x.weeks(1), 1);
        causes(x, 0, 0, 9, 9, 0, 4);
        causes(x, 1, 0, 9, 9, 20, 1, 1);
        Check.due("dead", x.now(3), 1);
        Check.due("dies of a dead one", x.dies(0), 0);
        Check.due("take a dead one", x.take(0, 0), 2);
        Check.due("weeks", x.weeks(50), 50);
        Check.due("dead", x.now(3), 5);
        Check.due("WEEK", x.now(0), 52);
        Check.due("BELIEVERS of a dead one", x.cause(0, 3), 0);
    }

    private static void disgrace() {
        LostCauses x = Check.office("line 1 2;coin 9;cause a 1 3 40 5;cause b 1 3 40 5;deed d 9 0 1;clerk k 2;clerk l 2;");
        x.weeks(1);
        x.take(0, 0);
        x.take(1, 1);
        x.act(0, 0);
        Check.due("no DISGRACE ahead of the WEEK's end", x.now(2), 0);
        Check.due("undone at the end of the WEEK", x.weeks(1), 1);
        causes(x, 0, 10, 3, 40, 4, 3, -1, 1, -1, 1538);
        causes(x, 1, 1, 3, 40, 5, 1, 1, 0, -1, 500);
        clerks(x, 0, 1, 2, -1, 1, 0, 0);
        nows(x, 2, 0, 1, 0, 1, 1, 0);
        Check.due("dies of a won one", x.dies(0), -1);
        Check.due("take a won one", x.take(0, 0), 2);
        Check.due("drop by the one who is free", x.drop(0), 1);
        Check.due("no coin for a DEED", x.act(1, 0), 5);
        x.drop(1);
        Check.due("coin", x.now(1), 20);
        x.weeks(6);
        Check.due("BELIEVERS of a won one", x.cause(0, 3), 4);
        Check.due("dead: not the won one", x.now(3), 2);
    }

    private static void openAgain() {
        LostCauses x = Check.office("cause a 0 9 9 20;cause b 0 9 9 5;cause c 0 9 9 6;clerk k 1;clerk l 1;clerk m 1;");
        x.weeks(1);
        for (int k = 0; k < 3; k++) {
            x.take(k, k);
            x.drop(k);
        }
        x.weeks(4);
        Check.due("dropped, three WEEKS on", x.cause(0, 4), 2);
        Check.due("dead, dropped", x.cause(1, 4), 4);
        Check.due("dropped, one BELIEVER left", x.cause(2, 4), 2);
        Check.due("in how many WEEKS it dies", x.dies(2), 1);
        x.weeks(1);
        Check.due("open again", x.cause(0, 4), 0);
        Check.due("dead ahead of being open", x.cause(2, 4), 4);
        Check.due("its FLAG stays", x.cause(0, 7), 0);
        Check.due("taken again", x.take(1, 0), 0);
        Check.due("dropped again in WEEK 6", x.drop(1), 0);
        Check.due("two of its FLAGS", x.now(6), 4);
        x.weeks(4);
        Check.due("not yet open", x.cause(0, 4), 2);
        x.weeks(1);
        Check.due("open once more", x.cause(0, 4), 0);
    }

    private static void believers() {
        LostCauses x = Check.office("cause a 0 9 9 20;cause b 0 9 9 20;clerk k 1;");
        Check.due("dies of an open one", x.dies(0), 20);
        x.take(0, 0);
        x.weeks(1);
        Check.due("20 at most", x.cause(0, 3), 20);
        x.drop(0);
        Check.due("dies of a dropped one", x.dies(0), 20);
        x.weeks(19);
        Check.due("dies", x.dies(0), 1);
    }

    private static void allWeeksOver() {
        LostCauses x = Check.office("line 1 2;cause a 1 9 50 20;cause b 1 9 9 20;deed d 1 1 1;clerk k 1;clerk l 1;");
        x.take(0, 0);
        for (int i = 0; i < 3; i++) {
            Check.due("fifty WEEKS", x.weeks(50), 50);
        }
        Check.due("forty-nine WEEKS", x.weeks(49), 49);
        Check.due("WEEK", x.now(0), 199);
        Check.due("drop in WEEK 199", x.drop(0), 2);
        Check.due("one is left", x.weeks(50), 1);
        Check.due("WEEK", x.now(0), 200);
        Check.due("none is left", x.weeks(1), 0);
        Check.due("dead, ahead of all being over", x.take(1, 1), 2);
        Check.due("a DEED when all are over", x.act(0, 0), 0);
        Check.due("dropped when all are over", x.drop(0), 0);
        Check.due("and dropped it stays", x.weeks(50), 0);
        Check.due("STATE", x.cause(0, 4), 2);

        LostCauses y = Check.office("line 1 2;cause a 1 9 50 20;clerk k 1;clerk l 1;");
        y.take(0, 0);
        for (int i = 0; i < 19; i++) {
            y.weeks(10);
        }
        y.drop(0);
        y.weeks(10);
        Check.due("open", y.cause(0, 4), 0);
        Check.due("take when all are over", y.take(0, 0), 4);
    }

    private static void undoing() {
        LostCauses x = Check.office(OFFICE);
        Check.due("nothing", x.undo(), -1);
        x.take(0, 0);
        x.take(0, 0);
        x.act(0, 1);
        x.act(0, 1);
        x.weeks(1);
        x.drop(0);
        x.drop(0);
        x.drawn(3, 5);
        Check.due("WEEK", x.now(0), 4);
        Check.due("drawn undone", x.undo(), 4);
        nows(x, 1, 84, 0, 4, 1, -1, 1);
        Check.due("drop undone", x.undo(), 3);
        nows(x, 1, 6, 0, 4, 1, -1, 0);
        clerks(x, 0, 1, 2, 0, 1, 0, 0);
        Check.due("weeks undone", x.undo(), 2);
        clerks(x, 0, 1, 2, 0, 1, 1, 0);
        causes(x, 2, 0, 5, 20, 1, 0);
        Check.due("act undone", x.undo(), 1);
        causes(x, 0, 1, 19, 90, 3, 1, 0, 0, -1, 250);
        nows(x, 0, 10, 0, 0, 0, -1, 0);
        Check.due("take undone", x.undo(), 0);
        causes(x, 0, 1, 19, 90, 3, 0, -1, 0, -1, 250);
        Check.due("nothing more", x.undo(), -1);
        for (int i = 0; i < 10; i++) {
            x.weeks(1);
        }
        for (int left = 7; left >= 0; left--) {
            Check.due("eight are kept", x.undo(), left);
        }
        Check.due("and no more", x.undo(), -1);
        Check.due("WEEK", x.now(0), 2);
    }

    private static void sadness() {
        LostCauses x = Check.office("line 1 2;cause a 1 9 9 9;cause b 3 9 9 2;cause c 3 9 9 9;cause d 9 9 9 9;deed e 0 9 0;"
            + "clerk k 9;");
        Check.due("the first of like ones", x.saddest(), 1);
        x.weeks(2);
        Check.due("not a dead one", x.saddest(), 2);
        x.take(0, 2);
        Check.due("a taken one", x.saddest(), 2);
        x.drop(0);
        Check.due("a dropped one", x.saddest(), 2);
        x.weeks(20);
        Check.due("none", x.saddest(), -1);
        Check.due("pay of a dead one", x.pay(2), 4);
    }
}
