/**
 * Edges that the document names of WEEKS, what dies, what is undone, what pays (its part 2., promises 10, 14, 15,
 * 31 to 33): a test for each sentence.
 */
public final class WeekEdgesTest {
    private static final int LEAST = Integer.MIN_VALUE;
    private static final int MOST = Integer.MAX_VALUE;

    public static void main(String[] args) {
        weeksNotAsTold();
        weeksAtOnce();
        weeksThatAreLeft();
        noWeekIsLeft();
        believersLess();
        believersMore();
        openInTheFourthWeek();
        notOpenIfDead();
        droppedTwice();
        coinOfADisgrace();
        firstDisgrace();
        twoDisgracesInAWeek();
        deadOnes();
        aFullOfficeWeekByWeek();
        undoOfNothing();
        eightAreKept();
        whatIsUndone();
        whatIsNotUndone();
        undoLeavesWhatWasTold();
        payNow();
        noSuchPay();
        diesInWeeks();
        diesBeyondAllWeeks();
        diesOfOthers();
        saddestOfLikeOnes();
        saddestOfStates();
        saddestOfNone();
        Check.finish();
    }

    private static void weeksNotAsTold() {
        Check.of("14: n (1 to 50) .. NONE: not as told");
        LostCauses x = Check.office("cause a 1 99 9 9;");
        int[] none = {0, 51, -1, LEAST, MOST};
        for (int n : none) {
            Check.due("weeks(" + n + ")", x.weeks(n), -1);
        }
        Check.due("WEEK", x.now(0), 0);
        Check.due("nothing to undo", x.undo(), -1);
    }

    private static void weeksAtOnce() {
        Check.of("14: n (1 to 50) WEEKS go by: how many did");
        LostCauses x = new LostCauses();
        Check.due("least", x.weeks(1), 1);
        Check.due("most", x.weeks(50), 50);
        Check.due("WEEK", x.now(0), 51);
    }

    private static void weeksThatAreLeft() {
        Check.of("A WEEK (0 to 199; 200: all are over)");
        LostCauses x = new LostCauses();
        for (int i = 0; i < 3; i++) {
            x.weeks(50);
        }
        x.weeks(40);
        Check.due("ten are left", x.weeks(50), 10);
        Check.due("WEEK", x.now(0), 200);
        x.undo();
        Check.due("nine of ten", x.weeks(9), 9);
        Check.due("the last one", x.weeks(1), 1);
        Check.due("WEEK", x.now(0), 200);
    }

    private static void noWeekIsLeft() {
        Check.of("15: weeks() or drawn() that was above 0 (200: all are over)");
        LostCauses x = Check.office("cause a 1 99 9 9;clerk k 1;");
        for (int i = 0; i < 4; i++) {
            x.weeks(50);
        }
        String before = Check.all(x);
        Check.due("weeks(1)", x.weeks(1), 0);
        Check.due("weeks(50)", x.weeks(50), 0);
        Check.due("drawn(50, 5)", x.drawn(50, 5), 0);
        Check.same("all", Check.all(x), before);
        Check.due("the latest above 0", x.undo(), 3);
        Check.due("WEEK", x.now(0), 150);
    }

    private static void believersLess() {
        Check.of("One that is open or dropped has 1 BELIEVER less; with none it is dead");
        LostCauses x = Check.office("cause a 1 99 9 1;cause b 1 99 9 2;cause c 1 99 9 2;clerk k 1;");
        x.take(0, 2);
        x.drop(0);
        x.weeks(1);
        Check.due("1 less of 1: dead", x.cause(0, 4), 4);
        Check.due("BELIEVERS", x.cause(0, 3), 0);
        Check.due("1 less of 2: open", x.cause(1, 4) * 10 + x.cause(1, 3), 1);
        Check.due("1 less of 2: dropped", x.cause(2, 4) * 10 + x.cause(2, 3), 21);
        x.weeks(1);
        Check.due("dead", x.cause(1, 4), 4);
        Check.due("dead, dropped", x.cause(2, 4), 4);
        x.weeks(10);
        Check.due("a dead one has no fewer than none", x.cause(0, 3) + x.cause(1, 3) + x.cause(2, 3), 0);
        Check.due("dead ones", x.now(3), 7);
    }

    private static void believersMore() {
        Check.of("One that is taken has 1 BELIEVER more (20 at most)");
        LostCauses x = Check.office("cause a 1 99 9 1;cause b 1 99 9 18;cause c 1 99 9 20;clerk k 1;clerk l 1;clerk m 1;");
        for (int k = 0; k < 3; k++) {
            x.take(k, k);
        }
        int[][] due = {{2, 19, 20}, {3, 20, 20}, {4, 20, 20}};
        for (int[] now : due) {
            x.weeks(1);
            for (int c = 0; c < 3; c++) {
                Check.due("BELIEVERS of " + c, x.cause(c, 3), now[c]);
            }
        }
    }

    private static void openInTheFourthWeek() {
        Check.of("One that was dropped 4 WEEKS ahead (in the fourth WEEK behind that, at its end) is open again");
        for (int dropped = 0; dropped < 4; dropped++) {
            LostCauses x = Check.office("cause a 1 99 9 20;clerk k 1;");
            x.take(0, 0);
            if (dropped > 0) {
                x.weeks(dropped);
            }
            x.drop(0);
            x.weeks(1);
            for (int behind = 1; behind <= 4; behind++) {
                Check.due("in the WEEK " + behind + " behind that", x.cause(0, 4), 2);
                x.weeks(1);
            }
            Check.due("at the end of the fourth", x.cause(0, 4), 0);
            Check.due("taken again", x.take(0, 0), 0);
        }
    }

    private static void notOpenIfDead() {
        Check.of("is open again, if it is not dead");
        LostCauses x = Check.office("cause a 1 99 9 5;cause b 1 99 9 6;cause c 1 99 9 4;clerk k 1;clerk l 1;clerk m 1;");
        for (int k = 0; k < 3; k++) {
            x.take(k, k);
            x.drop(k);
        }
        x.weeks(4);
        Check.due("dead ahead of that", x.cause(2, 4), 4);
        x.weeks(1);
        Check.due("dead at that end", x.cause(0, 4), 4);
        Check.due("open, one BELIEVER left", x.cause(1, 4) * 10 + x.cause(1, 3), 1);
        x.weeks(1);
        Check.due("and dead", x.cause(1, 4), 4);
    }

    private static void droppedTwice() {
        Check.of("One that was dropped 4 WEEKS ahead: by the latest drop");
        LostCauses x = Check.office("cause a 1 99 9 20;clerk k 1;");
        x.take(0, 0);
        x.drop(0);
        x.weeks(5);
        x.take(0, 0);
        x.weeks(2);
        x.drop(0);
        x.weeks(4);
        Check.due("dropped in WEEK 7", x.cause(0, 4), 2);
        x.weeks(1);
        Check.due("open behind WEEK 11", x.cause(0, 4), 0);
        Check.due("FLAGS", x.now(6), 2);
    }

    private static void coinOfADisgrace() {
        Check.of("a DISGRACE: the coin is 0, its CLERK is free");
        LostCauses x = Check.office("line 1 2;coin 999;cause a 1 3 9 9;cause b 1 3 9 9;deed d 20 0 1;clerk k 9;clerk l 9;");
        x.take(0, 1);
        x.act(0, 0);
        Check.due("coin ahead of it", x.now(1), 998);
        x.weeks(1);
        Check.due("coin", x.now(1), 0);
        Check.due("DISGRACES", x.now(2), 1);
        Check.due("his CAUSE", x.clerk(0, 2), -1);
        Check.due("he can take another", x.take(0, 0), 0);
        Check.due("BELIEVERS of one that is won", x.cause(1, 3), 9);
        x.weeks(9);
        Check.due("they stay", x.cause(1, 3), 9);
        Check.due("it stays won", x.cause(1, 4), 3);
        Check.due("one DISGRACE", x.now(2), 1);
    }

    private static void firstDisgrace() {
        Check.of("10: 5 the first WEEK with a DISGRACE (NONE)");
        LostCauses x = Check.office("line 1 2;cause a 1 3 9 9;cause b 1 3 9 9;deed d 20 0 0;clerk k 9;");
        Check.due("none", x.now(5), -1);
        x.take(0, 0);
        x.act(0, 0);
        Check.due("none yet", x.now(5), -1);
        x.weeks(3);
        Check.due("in WEEK 0", x.now(5), 0);
        x.take(0, 1);
        x.act(0, 0);
        x.weeks(1);
        Check.due("two", x.now(2), 2);
        Check.due("still the first", x.now(5), 0);
        x.undo();
        Check.due("still, one undone", x.now(5), 0);
        LostCauses y = Check.office("line 1 2;cause a 1 3 9 9;cause b 1 3 9 9;deed d 20 0 0;clerk k 9;clerk l 9;");
        y.take(0, 0);
        y.take(1, 1);
        y.weeks(50);
        y.weeks(50);
        y.weeks(50);
        y.weeks(49);
        y.act(1, 0);
        y.weeks(1);
        Check.due("in the last WEEK", y.now(5), 199);
        y.undo();
        Check.due("undone", y.now(5), -1);
        y.act(0, 0);
        y.weeks(1);
        Check.due("again", y.now(5), 199);
    }

    private static void twoDisgracesInAWeek() {
        Check.of("CAUSE by CAUSE: one that is taken, but not SAFE, is won: a DISGRACE");
        LostCauses x = Check.office("line 1 2;cause a 1 3 9 9;cause b 1 3 9 9;cause c 1 3 9 9;deed d 20 0 0;"
            + "clerk k 9;clerk l 9;clerk m 9;");
        for (int k = 0; k < 3; k++) {
            x.take(k, 2 - k);
        }
        x.act(0, 0);
        x.act(2, 0);
        x.weeks(1);
        Check.due("DISGRACES", x.now(2), 2);
        Check.due("first free", x.clerk(0, 2), -1);
        Check.due("second not", x.clerk(1, 2), 1);
        Check.due("third free", x.clerk(2, 2), -1);
        Check.due("won, taken, won", x.cause(0, 4) * 100 + x.cause(1, 4) * 10 + x.cause(2, 4), 313);
    }

    private static void deadOnes() {
        Check.of("10: 3 CAUSES that are dead, as bits");
        LostCauses x = Check.office("cause a 1 9 9 9;cause b 1 9 9 1;cause c 1 9 9 9;cause d 1 9 9 2;cause e 1 9 9 9;"
            + "cause f 1 9 9 3;");
        int[] due = {2, 10, 42, 42, 42, 42, 42, 42, 63};
        Check.due("none", x.now(3), 0);
        for (int week = 0; week < due.length; week++) {
            x.weeks(1);
            Check.due("behind WEEK " + week, x.now(3), due[week]);
        }
    }

    private static void aFullOfficeWeekByWeek() {
        Check.of("each CLERK .. CAUSE by CAUSE: of 5 CLERKS, 6 CAUSES");
        LostCauses x = Check.office("line 1 2;coin 99;cause a 1 99 9 9;cause b 1 99 9 9;cause c 1 99 9 9;"
            + "cause d 1 99 9 9;cause e 1 99 9 9;cause f 1 99 9 9;deed u 1 0 1;deed v 0 1 1;deed w 1 1 1;"
            + "deed x 0 0 1;deed y 2 0 1;deed z 0 2 1;clerk k 1;clerk l 2;clerk m 3;clerk n 4;clerk o 5;");
        for (int k = 0; k < 5; k++) {
            Check.due("take", x.take(k, 5 - k), 0);
            Check.due("act", x.act(k, 5 - k), 0);
        }
        Check.due("weeks", x.weeks(1), 1);
        Check.due("DEEDS so far", x.now(4), 5);
        Check.due("coin", x.now(1), 94);
        Check.due("WEEK", x.now(0), 1);
        for (int k = 0; k < 5; k++) {
            Check.due("zeal of " + k, x.clerk(k, 0), k);
            Check.due("DEEDS of " + k, x.clerk(k, 3), 1);
            Check.due("none in this WEEK", x.clerk(k, 4), 0);
            Check.due("BELIEVERS of " + (5 - k), x.cause(5 - k, 3), 10);
            Check.due("FLAG of " + (5 - k), x.cause(5 - k, 7), -1);
            Check.due("DEEDS for " + (5 - k), x.cause(5 - k, 6), 1 << 5 - k);
        }
        Check.due("the open one", x.cause(0, 4) * 10 + x.cause(0, 3), 8);
        x.weeks(1);
        Check.due("zeal of the last", x.clerk(4, 0), 5);
        Check.due("not more than told", x.clerk(0, 0), 1);
        Check.due("dead", x.now(3), 0);
        Check.due("DISGRACES", x.now(2), 0);
    }

    private static void undoOfNothing() {
        Check.of("15: NONE: none is");
        LostCauses x = Check.office("cause a 1 9 9 9;clerk k 1;");
        Check.due("of a new OFFICE", x.undo(), -1);
        Check.due("of a new object", new LostCauses().undo(), -1);
        x.take(0, 0);
        Check.due("one", x.undo(), 0);
        String before = Check.all(x);
        Check.due("no more", x.undo(), -1);
        Check.due("and again", x.undo(), -1);
        Check.same("all", Check.all(x), before);
    }

    private static void eightAreKept() {
        Check.of("15: how many more can be (8 at most are kept)");
        for (int done = 7; done <= 10; done++) {
            LostCauses x = new LostCauses();
            for (int i = 1; i <= done; i++) {
                x.weeks(i);
            }
            int kept = Math.min(done, 8);
            int week = done * (done + 1) / 2;
            for (int left = kept - 1; left >= 0; left--) {
                Check.due("of " + done, x.undo(), left);
                week -= done - (kept - 1 - left);
                Check.due("WEEK", x.now(0), week);
            }
            Check.due("no more", x.undo(), -1);
            Check.due("WEEK", x.now(0), week);
            Check.due("then again", x.weeks(2), 2);
            Check.due("one", x.undo(), 0);
            Check.due("WEEK", x.now(0), week);
        }
    }

    private static void whatIsUndone() {
        Check.of("15: The latest of take(), act(), drop() that was done, weeks() or drawn() .., a LEDGER .. is undone");
        LostCauses x = Check.office("line 1 2;cause a 1 9 90 9;deed d 1 0 3;clerk k 3;clerk l 3;");
        String[] before = new String[6];
        String text = Check.all(x);
        before[0] = text;
        x.take(0, 0);
        before[1] = Check.all(x);
        x.act(0, 0);
        before[2] = Check.all(x);
        x.drop(0);
        for (int left = 2; left >= 0; left--) {
            Check.due("undo", x.undo(), left);
            Check.same("all", Check.all(x), before[left]);
        }
        LostCauses y = Check.office("line 1 2;cause a 1 9 90 9;deed d 1 0 3;clerk k 3;clerk l 3;");
        y.take(0, 0);
        y.weeks(4);
        y.drawn(40, 3);
        Check.ledger(y, "week 2;week 3;week 4;", 1);
        Check.due("WEEK", y.now(0), 53);
        Check.due("a LEDGER, as one", y.undo(), 3);
        Check.due("WEEK", y.now(0), 44);
        Check.due("drawn(), as one", y.undo(), 2);
        Check.due("WEEK", y.now(0), 4);
        Check.due("weeks(), as one", y.undo(), 1);
        Check.due("WEEK", y.now(0), 0);
        Check.due("taken", y.cause(0, 5), 0);
    }

    private static void whatIsNotUndone() {
        Check.of("15: .. that was done, .. of which a LINE was lived");
        LostCauses x = Check.office("line 1 2;coin 19;cause a 1 9 90 9;deed d 1 0 20;clerk k 3;");
        x.weeks(3);
        x.take(0, 5);
        x.take(0, -1);
        x.act(0, 0);
        x.drop(0);
        x.weeks(0);
        x.drawn(51, 1);
        Check.ledger(x, "k takes a;week 5;", 0);
        Check.ledger(x, "k drops;k takes a;", 1);
        Check.ledger(x, "", 1);
        Check.ledger(x, "k takes", 1);
        x.school(1, 50);
        x.risk(40, 1);
        x.best(50);
        x.match();
        x.image(0);
        Check.sentence(x, "open");
        Check.tape(x, "clerk");
        x.office();
        Check.due("but for weeks(3)", x.undo(), 0);
        Check.due("WEEK", x.now(0), 0);
        Check.due("no more", x.undo(), -1);
    }

    private static void undoLeavesWhatWasTold() {
        Check.of("15: .. is undone: and what other calls told stays");
        LostCauses x = Check.office("line 1 2;cause a 1 9 90 9;deed d 1 0 3;clerk k 3;");
        x.take(0, 0);
        Check.sentence(x, "taken");
        x.match();
        Check.ledger(x, "k does d;k drops;k drops;", 1);
        x.feed(0x01090000, 0, 0, 0, 0);
        x.end(2);
        x.flags(0);
        x.undo();
        x.undo();
        Check.due("booked", x.booked(0), 21);
        Check.due("tried", x.tried(), 0);
        Check.due("the SENTENCE", x.said(-1), 0);
        Check.due("open again", x.cause(0, 4), 0);
    }

    private static void payNow() {
        Check.of("31: What it would pay to drop a CAUSE now (0, if it is not SAFE)");
        LostCauses x = Check.office("line 1 2;cause a 1 9 99 9;cause b 9 9 99 9;cause c 8 9 99 1;cause d 1 9 4 9;"
            + "deed u 20 0 0;clerk k 1;clerk l 1;");
        int[] due = {19, 0, 93, 0};
        for (int c = 0; c < 4; c++) {
            Check.due("pay(" + c + ")", x.pay(c), due[c]);
        }
        x.take(0, 0);
        Check.due("taken", x.pay(0), 19);
        x.act(0, 0);
        Check.due("not SAFE any more", x.pay(0), 0);
        x.weeks(1);
        Check.due("won", x.pay(0), 0);
        Check.due("dead", x.pay(2), 93);
    }

    private static void noSuchPay() {
        Check.of("31: NONE: no such one");
        LostCauses x = Check.office("cause a 1 99 9 9;cause b 1 99 9 9;");
        int[] none = {-1, 2, 6, LEAST, MOST};
        for (int c : none) {
            Check.due("pay(" + c + ")", x.pay(c), -1);
            Check.due("dies(" + c + ")", x.dies(c), -1);
        }
    }

    private static void diesInWeeks() {
        Check.of("32: In how many WEEKS .. a CAUSE that is open or dropped is dead, if nobody takes it (0: it is)");
        LostCauses x = Check.office("cause a 1 99 9 20;cause b 1 99 9 1;cause c 1 99 9 3;clerk k 1;");
        x.take(0, 2);
        x.drop(0);
        int[] due = {20, 1, 3};
        for (int c = 0; c < 3; c++) {
            Check.due("dies(" + c + ")", x.dies(c), due[c]);
        }
        x.weeks(1);
        Check.due("dead", x.dies(1), 0);
        Check.due("dropped", x.dies(2), 2);
        x.weeks(1);
        Check.due("not yet", x.cause(2, 4), 2);
        x.weeks(1);
        Check.due("dead, as was told", x.cause(2, 4), 4);
    }

    private static void diesBeyondAllWeeks() {
        Check.of("32: (as if WEEKS went on beyond 200)");
        LostCauses x = Check.office("cause a 1 99 9 20;cause b 1 99 9 20;clerk k 1;clerk l 1;");
        x.take(0, 0);
        x.take(1, 1);
        for (int i = 0; i < 39; i++) {
            x.weeks(5);
        }
        x.weeks(3);
        x.drop(0);
        x.weeks(2);
        Check.due("WEEK", x.now(0), 200);
        Check.due("dropped", x.dies(0), 18);
        x.drop(1);
        Check.due("dropped when all are over", x.dies(1), 20);
    }

    private static void diesOfOthers() {
        Check.of("32: NONE: taken, won");
        LostCauses x = Check.office("line 1 2;cause a 1 9 9 9;cause b 1 9 9 9;deed d 20 0 0;clerk k 1;clerk l 1;");
        x.take(0, 0);
        x.take(1, 1);
        x.act(0, 0);
        Check.due("taken, not SAFE", x.dies(0), -1);
        x.weeks(1);
        Check.due("won", x.dies(0), -1);
        Check.due("taken", x.dies(1), -1);
    }

    private static void saddestOfLikeOnes() {
        Check.of("33: The CAUSE with the greatest NEARNESS that is SAFE (of like ones the first");
        LostCauses x = Check.office("line 1 2;cause a 1 99 9 9;cause b 1 98 9 9;cause c 1 97 9 9;");
        Check.due("like NEARNESS, other ODDS", x.saddest(), 0);
        Check.due("the first", Check.office("cause a 1 99 9 9;cause b 1 99 9 9;").saddest(), 0);
        Check.due("the last of six", Check.office("line 1 2;cause a 1 99 9 9;cause b 1 99 9 9;cause c 99 1 9 9;"
            + "cause d 1 99 9 9;cause e 1 99 9 9;cause f 2 99 9 9;").saddest(), 5);
        Check.due("NEARNESS 0", Check.office("cause a 0 99 9 9;").saddest(), 0);
        Check.due("not one beyond six", Check.office("line 98 99;cause a 1 99 9 9;cause b 1 99 9 9;cause c 1 99 9 9;"
            + "cause d 1 99 9 9;cause e 1 99 9 9;cause f 2 99 9 9;clerk k 9;").saddest(), 5);
    }

    private static void saddestOfStates() {
        Check.of("33: open, taken or dropped");
        LostCauses x = Check.office("line 1 2;cause a 3 9 9 9;cause b 2 9 9 9;cause c 1 9 9 20;deed d 20 0 0;clerk k 9;"
            + "clerk l 9;");
        Check.due("open", x.saddest(), 0);
        x.take(0, 0);
        Check.due("taken", x.saddest(), 0);
        x.drop(0);
        Check.due("dropped", x.saddest(), 0);
        x.weeks(8);
        Check.due("open again", x.saddest(), 0);
        x.weeks(1);
        Check.due("dead", x.saddest(), 2);
        x.take(1, 2);
        x.act(1, 0);
        Check.due("taken, not SAFE", x.saddest(), -1);
        x.weeks(1);
        Check.due("won", x.saddest(), -1);
    }

    private static void saddestOfNone() {
        Check.of("33: NONE: none");
        Check.due("no CAUSES", new LostCauses().saddest(), -1);
        Check.due("none that is SAFE", Check.office("line 1 2;cause a 9 9 9 9;cause b 99 1 9 9;").saddest(), -1);
    }
}
