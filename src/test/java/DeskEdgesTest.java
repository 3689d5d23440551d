/**
 * Edges that the document names of CAUSES, CLERKS, WEEKS and what is undone (its part 2., promises 6 to 15, 26,
 * 31 to 33): a test for each sentence.
 */
public final class DeskEdgesTest {
    private static final String DESK = "line 1 2;coin 5;cause a 1 40 9 20;cause b 1 40 9 20;cause c 1 40 9 20;"
        + "cause h 1 40 9 20;deed d 1 0 5;deed e 1 0 1;deed f 0 0 0;deed g 0 0 6;clerk k 2;clerk l 1;clerk m 9;";
    private static final int LEAST = Integer.MIN_VALUE;
    private static final int MOST = Integer.MAX_VALUE;

    public static void main(String[] args) {
        notSafeAtTheLine();
        safeBelowTheLine();
        wonAtTheLine();
        nearnessIsCut();
        fractions();
        noSuchCauses();
        noSuchOdds();
        noFairBet();
        throwingChangesNothing();
        noSuchDeeds();
        noSuchClerks();
        anotherNow();
        whoHasACause();
        whatADeedDoes();
        takeOfNoSuchOnes();
        takeBySomebodyBusy();
        takeOfOneNotOpen();
        takeOfOneNotSafe();
        takeWhenAllIsOver();
        actOfNoSuchOnes();
        actWithoutACause();
        actDoneAlready();
        actWithoutZeal();
        zealUpToWhatWasTold();
        actTwiceAWeek();
        actForTooMuch();
        dropOfNoSuchOne();
        dropWithoutACause();
        dropInFifthWeeks();
        dropPaysIfSafe();
        flagIsTheLatest();
        refusedCallsChangeNothing();
        Check.finish();
    }

    private static void notSafeAtTheLine() {
        Check.of("It is SAFE below N by M of the line; 1000 and more: not SAFE");
        LostCauses x = Check.office("line 6 11;cause b 6 5 99 9;cause c 99 1 99 9;clerk k 9;deed d 0 0 0;");
        Check.due("at it", x.cause(0, 8), 1000);
        Check.due("above it", x.cause(1, 8), 1815);
        for (int c = 0; c < 2; c++) {
            Check.due("take", x.take(0, c), 3);
            Check.due("pay", x.pay(c), 0);
            Check.due("nearest", x.nearest(c, 6), -1);
            Check.due("ways", x.ways(c, 6), 0);
            Check.due("orders", x.orders(c, 0), 0);
            Check.due("plot", x.plot(c), 0);
            Check.due("value", x.value(0, c), 0);
        }
        Check.due("saddest", x.saddest(), -1);
        Check.due("rests", x.rests(-1), 0);
        Check.due("match", x.match(), 0);
    }

    private static void safeBelowTheLine() {
        Check.of("It is SAFE below N by M of the line");
        LostCauses x = Check.office("line 6 11;cause a 91 76 99 9;clerk k 9;deed d 0 0 0;");
        Check.due("just below it", x.cause(0, 8), 999);
        Check.due("pay, cut", x.pay(0), 98);
        Check.due("nearest", x.nearest(0, 6), 0);
        Check.due("ways", x.ways(0, 6), 2);
        Check.due("orders", x.orders(0, 1), 1);
        Check.due("plot", x.plot(0), -1);
        Check.due("value", x.value(0, 0), 98);
        Check.due("saddest", x.saddest(), 0);
        Check.due("rests", x.rests(0), 0);
        Check.due("take", x.take(0, 0), 0);
        Check.due("weeks", x.weeks(1), 1);
        Check.due("not won", x.cause(0, 4), 1);
    }

    private static void wonAtTheLine() {
        Check.of("one that is taken, but not SAFE, is won");
        LostCauses x = Check.office("line 1 2;cause a 0 4 9 9;cause b 0 4 9 9;deed d 4 0 0;deed e 3 0 0;"
            + "clerk k 9;clerk l 9;");
        x.take(0, 0);
        x.take(1, 1);
        x.act(0, 0);
        x.act(1, 1);
        x.weeks(1);
        Check.due("at the line: won", x.cause(0, 4), 3);
        Check.due("below it: taken", x.cause(1, 4), 1);
        Check.due("BELIEVERS of the one that is won", x.cause(0, 3), 9);
        Check.due("BELIEVERS of the one that is taken", x.cause(1, 3), 10);
        Check.due("nobody has it", x.cause(0, 5), -1);
        Check.due("its CLERK is free", x.clerk(0, 2), -1);
        Check.due("he has none to drop", x.drop(0), 1);
    }

    private static void nearnessIsCut() {
        Check.of("NEARNESS: 1000 times ODDS by the line (cut)");
        String[] offices = {"line 98 99;cause a 1 99 9 9;", "line 1 99;cause a 99 1 9 9;", "line 1 2;cause a 0 99 9 9;",
            "line 2 3;cause a 1 1 9 9;", "line 98 99;cause a 98 1 9 9;", "line 1 2;cause a 1 98 9 9;"};
        int[] due = {10, 98010, 0, 750, 1000, 20};
        for (int i = 0; i < due.length; i++) {
            Check.due(offices[i], Check.office(offices[i]).cause(0, 8), due[i]);
        }
        LostCauses x = Check.office("line 1 99;cause a 99 1 9 9;deed d 20 0 0;deed e 20 0 0;deed f 20 0 0;"
            + "deed g 20 0 0;deed h 20 0 0;deed i 20 0 0;");
        Check.due("the most of all", x.near(0, 63), 98550);
    }

    private static void fractions() {
        Check.of("All fractions are told by two numbers: 0 above, 1 below, in least terms");
        LostCauses x = Check.office("cause a 0 99 1 1;cause b 99 99 1 1;cause c 97 89 1 1;cause d 6 90 1 1;"
            + "cause e 99 1 1 1;");
        int[][] odds = {{0, 1}, {1, 2}, {97, 186}, {1, 16}, {99, 100}};
        int[][] bets = {{0, 0}, {1, 1}, {89, 97}, {15, 1}, {1, 99}};
        for (int c = 0; c < odds.length; c++) {
            for (int what = 0; what < 2; what++) {
                Check.due("odds(" + c + "," + what + ")", x.odds(c, what), odds[c][what]);
                if (c > 0) {
                    Check.due("fair(" + c + "," + what + ")", x.fair(c, what), bets[c][what]);
                }
            }
        }
    }

    private static void noSuchCauses() {
        Check.of("6: NoSuchElementException: no such ones");
        LostCauses x = Check.office(DESK);
        int[] causes = {-1, 4, 6, LEAST, MOST};
        int[] whats = {-1, 9, LEAST, MOST};
        for (int c : causes) {
            Check.throwsNone("cause(" + c + ",0)", () -> x.cause(c, 0));
            Check.throwsNone("cause(" + c + ",8)", () -> x.cause(c, 8));
        }
        for (int what : whats) {
            Check.throwsNone("cause(0," + what + ")", () -> x.cause(0, what));
        }
        Check.due("the last one", x.cause(3, 8), 48);
        Check.throwsNone("of a new object", () -> new LostCauses().cause(0, 0));
    }

    private static void noSuchOdds() {
        Check.of("7: NoSuchElementException: no such ones");
        LostCauses x = Check.office(DESK);
        int[] causes = {-1, 4, 6, LEAST, MOST};
        int[] whats = {-1, 2, LEAST, MOST};
        for (int c : causes) {
            Check.throwsNone("odds(" + c + ",0)", () -> x.odds(c, 0));
            Check.throwsNone("odds(" + c + ",1)", () -> x.odds(c, 1));
        }
        for (int what : whats) {
            Check.throwsNone("odds(3," + what + ")", () -> x.odds(3, what));
        }
        Check.due("the last one", x.odds(3, 1), 41);
        Check.throwsNone("of a new object", () -> new LostCauses().odds(0, 0));
    }

    private static void noFairBet() {
        Check.of("26: NoSuchElementException: no such ones, FOR is 0");
        LostCauses x = Check.office("line 1 2;cause a 0 9 9 9;cause b 9 9 9 9;deed d 1 0 0;clerk k 1;");
        int[] causes = {-1, 2, 6, LEAST, MOST};
        int[] whats = {-1, 2, LEAST, MOST};
        for (int c : causes) {
            Check.throwsNone("fair(" + c + ",0)", () -> x.fair(c, 0));
        }
        for (int what : whats) {
            Check.throwsNone("fair(1," + what + ")", () -> x.fair(1, what));
        }
        Check.throwsNone("FOR is 0, above", () -> x.fair(0, 0));
        Check.throwsNone("FOR is 0, below", () -> x.fair(0, 1));
        x.take(0, 0);
        x.act(0, 0);
        Check.due("FOR is 1: above", x.fair(0, 0), 9);
        Check.due("FOR is 1: below", x.fair(0, 1), 1);
    }

    private static void throwingChangesNothing() {
        Check.of("A call that throws changes nothing");
        LostCauses x = Check.office("line 1 2;cause a 0 9 9 9;clerk k 1;");
        Check.sentence(x, "taken");
        x.take(0, 0);
        Check.sentence(x, "open or");
        x.feed(1, 2, 3, 4, 5);
        String before = Check.all(x);
        Check.throwsNone("cause", () -> x.cause(1, 0));
        Check.throwsNone("odds", () -> x.odds(0, 2));
        Check.throwsNone("value", () -> x.value(1, 0));
        Check.throwsNone("fair", () -> x.fair(0, 0));
        Check.same("all", Check.all(x), before);
        Check.due("what can be undone", x.undo(), 0);
    }

    private static void noSuchDeeds() {
        Check.of("8: NONE: no such ones");
        LostCauses x = Check.office(DESK);
        int[][] none = {{-1, 0}, {4, 0}, {6, 0}, {LEAST, 0}, {MOST, 0}, {0, -1}, {0, 3}, {3, 3}, {0, LEAST}, {0, MOST},
            {-1, 3}};
        for (int[] one : none) {
            Check.due("deed(" + one[0] + "," + one[1] + ")", x.deed(one[0], one[1]), -1);
        }
        Check.due("the last one", x.deed(3, 2), 6);
        Check.due("of a new object", new LostCauses().deed(0, 0), -1);
    }

    private static void noSuchClerks() {
        Check.of("9: NONE: no such ones");
        LostCauses x = Check.office(DESK);
        int[][] none = {{-1, 0}, {3, 0}, {5, 0}, {LEAST, 0}, {MOST, 0}, {0, -1}, {0, 6}, {2, 6}, {0, LEAST}, {0, MOST},
            {-1, 6}};
        for (int[] one : none) {
            Check.due("clerk(" + one[0] + "," + one[1] + ")", x.clerk(one[0], one[1]), -1);
        }
        Check.due("the last one", x.clerk(2, 0), 9);
        Check.of("9: 2 the CAUSE that he has (NONE)");
        Check.due("free", x.clerk(2, 2), -1);
        x.take(2, 0);
        Check.due("the first CAUSE", x.clerk(2, 2), 0);
        x.drop(2);
        Check.due("free again", x.clerk(2, 2), -1);
    }

    private static void anotherNow() {
        Check.of("10: NONE for another what");
        LostCauses x = Check.office(DESK);
        int[] others = {-1, 7, 8, LEAST, MOST};
        for (int what : others) {
            Check.due("now(" + what + ")", x.now(what), -1);
        }
    }

    private static void whoHasACause() {
        Check.of("6: 5 the CLERK who has it (NONE), 6 DEEDS done for it, as bits");
        LostCauses x = Check.office(DESK);
        for (int c = 0; c < 4; c++) {
            Check.due("nobody has " + c, x.cause(c, 5), -1);
            Check.due("no DEEDS for " + c, x.cause(c, 6), 0);
        }
        x.take(0, 3);
        x.take(2, 0);
        Check.due("the first CLERK", x.cause(3, 5), 0);
        Check.due("the last CLERK", x.cause(0, 5), 2);
        x.drop(0);
        x.drop(2);
        Check.due("dropped", x.cause(3, 5), -1);
        Check.due("dropped", x.cause(0, 5), -1);
    }

    private static void whatADeedDoes() {
        Check.of("FOR is UP more, AGAINST is DOWN more, the coin COST less, his zeal 1 less");
        LostCauses x = Check.office("line 98 99;coin 20;cause a 99 99 9 9;deed d 20 19 18;deed e 0 0 0;clerk k 9;");
        x.take(0, 0);
        x.act(0, 0);
        Check.due("FOR", x.cause(0, 0), 119);
        Check.due("AGAINST", x.cause(0, 1), 118);
        Check.due("coin", x.now(1), 2);
        Check.due("zeal", x.clerk(0, 0), 8);
        Check.due("DEEDS", x.now(4), 1);
        x.weeks(1);
        x.act(0, 1);
        Check.due("FOR, by nothing", x.cause(0, 0), 119);
        Check.due("AGAINST, by nothing", x.cause(0, 1), 118);
        Check.due("DEEDS, by nothing", x.now(4), 2);
        Check.due("zeal, by nothing", x.clerk(0, 0), 7);
    }

    private static void takeOfNoSuchOnes() {
        Check.of("11: NONE: no such ones");
        LostCauses x = Check.office(DESK);
        int[][] none = {{-1, 0}, {3, 0}, {5, 0}, {LEAST, 0}, {MOST, 0}, {0, -1}, {0, 4}, {0, 6}, {0, LEAST}, {0, MOST}};
        for (int[] one : none) {
            Check.due("take(" + one[0] + "," + one[1] + ")", x.take(one[0], one[1]), -1);
        }
        x.take(0, 0);
        Check.due("NONE, not 1", x.take(0, 4), -1);
        Check.due("the last ones", x.take(2, 3), 0);
    }

    private static void takeBySomebodyBusy() {
        Check.of("To TAKE: why not, the least: 1 the CLERK has one");
        LostCauses x = Check.office("line 1 2;cause a 1 9 9 9;cause b 1 9 9 9;cause c 9 9 9 9;clerk k 1;clerk l 1;");
        x.take(0, 0);
        Check.due("another", x.take(0, 1), 1);
        Check.due("ahead of 2", x.take(0, 0), 1);
        Check.due("ahead of 3", x.take(0, 2), 1);
        x.drop(0);
        Check.due("free again", x.take(0, 1), 0);
    }

    private static void takeOfOneNotOpen() {
        Check.of("To TAKE: why not, the least: 2 it is not open");
        LostCauses x = Check.office("line 1 2;cause a 1 9 9 9;cause b 1 9 9 1;cause c 1 9 9 9;deed d 20 0 0;"
            + "clerk k 9;clerk l 9;clerk m 9;");
        x.take(0, 0);
        x.take(1, 2);
        Check.due("taken", x.take(2, 0), 2);
        x.act(0, 0);
        Check.due("taken, ahead of 3", x.take(2, 0), 2);
        x.act(1, 0);
        x.drop(1);
        Check.due("dropped, ahead of 3", x.take(2, 2), 2);
        x.weeks(1);
        Check.due("won, ahead of 3", x.take(2, 0), 2);
        Check.due("dead", x.take(2, 1), 2);
    }

    private static void takeOfOneNotSafe() {
        Check.of("To TAKE: why not, the least: 3 it is not SAFE");
        LostCauses x = Check.office("line 1 2;cause a 9 9 9 9;cause b 8 9 9 9;clerk k 9;");
        Check.due("at the line", x.take(0, 0), 3);
        Check.due("below it", x.take(0, 1), 0);
    }

    private static void takeWhenAllIsOver() {
        Check.of("To TAKE: why not, the least: 4 all WEEKS are over");
        LostCauses x = Check.office("line 1 2;cause a 1 9 9 20;cause b 1 9 9 20;cause c 1 9 9 20;cause e 1 9 9 1;"
            + "deed d 20 0 0;clerk k 1;clerk l 1;clerk m 1;");
        for (int k = 0; k < 3; k++) {
            x.take(k, k);
        }
        for (int i = 0; i < 19; i++) {
            x.weeks(10);
        }
        Check.due("DEED in WEEK 190", x.act(1, 0), 0);
        Check.due("drop of one that is not SAFE", x.drop(1), 0);
        Check.due("drop of one that is", x.drop(0), 0);
        x.weeks(9);
        Check.due("in the last WEEK one may be taken", x.take(0, 0), 0);
        x.undo();
        x.weeks(1);
        Check.due("open at the end", x.cause(0, 4) + x.cause(1, 4), 0);
        Check.due("open and SAFE", x.take(0, 0), 4);
        Check.due("behind 3", x.take(0, 1), 3);
        Check.due("behind 2", x.take(0, 3), 2);
        Check.due("behind 1", x.take(2, 0), 1);
    }

    private static void actOfNoSuchOnes() {
        Check.of("12: NONE: no such ones");
        LostCauses x = Check.office(DESK);
        x.take(0, 0);
        int[][] none = {{-1, 0}, {3, 0}, {5, 0}, {LEAST, 0}, {MOST, 0}, {0, -1}, {0, 4}, {0, 6}, {0, LEAST}, {0, MOST},
            {1, 4}};
        for (int[] one : none) {
            Check.due("act(" + one[0] + "," + one[1] + ")", x.act(one[0], one[1]), -1);
        }
    }

    private static void actWithoutACause() {
        Check.of("To DO a DEED: 1 he has none");
        LostCauses x = Check.office(DESK);
        for (int d = 0; d < 4; d++) {
            Check.due("ahead of 5 too", x.act(0, d), 1);
        }
        x.take(0, 0);
        x.act(0, 2);
        x.drop(0);
        Check.due("dropped, ahead of 4", x.act(0, 1), 1);
    }

    private static void actDoneAlready() {
        Check.of("To DO a DEED: 2 it was done for it already; (What was done for it stays.)");
        LostCauses x = Check.office(DESK);
        x.take(0, 0);
        x.act(0, 0);
        Check.due("ahead of 4 and 5", x.act(0, 0), 2);
        x.take(1, 1);
        x.act(1, 2);
        Check.due("ahead of 3", x.act(1, 2), 2);
        x.drop(0);
        x.weeks(5);
        Check.due("another takes it", x.take(2, 0), 0);
        Check.due("done by somebody else", x.act(2, 0), 2);
        Check.due("DEEDS done for it", x.cause(0, 6), 1);
        Check.due("what was not", x.act(2, 2), 0);
        Check.due("now it was", x.cause(0, 6), 5);
    }

    private static void actWithoutZeal() {
        Check.of("To DO a DEED: 3 he has no zeal left");
        LostCauses x = Check.office(DESK);
        x.take(1, 1);
        Check.due("by the last zeal", x.act(1, 2), 0);
        Check.due("zeal", x.clerk(1, 0), 0);
        Check.due("ahead of 4 and 5", x.act(1, 3), 3);
        x.weeks(1);
        Check.due("he did a DEED in that WEEK: no more zeal", x.act(1, 3), 3);
        x.weeks(1);
        Check.due("1 more zeal", x.act(1, 3), 5);
    }

    private static void zealUpToWhatWasTold() {
        Check.of("each CLERK who did no DEED in it has 1 more zeal, up to what was told");
        LostCauses x = Check.office(DESK.replace("coin 5", "coin 50"));
        x.weeks(3);
        Check.due("not more than told", x.clerk(2, 0), 9);
        x.take(2, 0);
        int[] zeal = {8, 7, 6};
        for (int d = 0; d < 3; d++) {
            Check.due("act", x.act(2, d), 0);
            x.weeks(1);
            Check.due("1 less", x.clerk(2, 0), zeal[d]);
        }
        Check.due("three DEEDS", x.clerk(2, 3), 3);
        x.drop(2);
        x.weeks(2);
        Check.due("2 more, without a CAUSE", x.clerk(2, 0), 8);
        x.weeks(2);
        Check.due("not more than told", x.clerk(2, 0), 9);
        Check.due("what was told", x.clerk(2, 1), 9);
    }

    private static void actTwiceAWeek() {
        Check.of("To DO a DEED: 4 he did one in this WEEK");
        LostCauses x = Check.office(DESK);
        x.take(2, 2);
        x.act(2, 2);
        Check.due("a second one", x.act(2, 1), 4);
        Check.due("ahead of 5", x.act(2, 3), 4);
        Check.due("clerk(2,4)", x.clerk(2, 4), 1);
        x.drop(2);
        x.take(2, 3);
        Check.due("for another CAUSE", x.act(2, 2), 4);
        x.weeks(1);
        Check.due("clerk(2,4) in the next WEEK", x.clerk(2, 4), 0);
        Check.due("in the next WEEK", x.act(2, 2), 0);
    }

    private static void actForTooMuch() {
        Check.of("To DO a DEED: 5 COST is more than the coin");
        LostCauses x = Check.office(DESK);
        x.take(2, 0);
        Check.due("6 of 5", x.act(2, 3), 5);
        Check.due("5 of 5", x.act(2, 0), 0);
        Check.due("coin", x.now(1), 0);
        x.weeks(1);
        Check.due("1 of 0", x.act(2, 1), 5);
        Check.due("0 of 0", x.act(2, 2), 0);
    }

    private static void dropOfNoSuchOne() {
        Check.of("13: NONE: no such one");
        LostCauses x = Check.office(DESK);
        int[] none = {-1, 3, 5, LEAST, MOST};
        for (int k : none) {
            Check.due("drop(" + k + ")", x.drop(k), -1);
        }
        x.take(2, 0);
        Check.due("the last one", x.drop(2), 0);
    }

    private static void dropWithoutACause() {
        Check.of("To DROP: 1 he has none");
        LostCauses x = Check.office(DESK);
        Check.due("drop", x.drop(0), 1);
        x.weeks(4);
        Check.due("ahead of 2", x.drop(0), 1);
    }

    private static void dropInFifthWeeks() {
        Check.of("To DROP: 2 it is a fifth WEEK (4, 9, 14, ..)");
        LostCauses x = Check.office(DESK);
        x.take(0, 0);
        for (int week = 0; week < 20; week++) {
            boolean fifth = week == 4 || week == 9 || week == 14 || week == 19;
            Check.due("drop in WEEK " + week, x.drop(0), fifth ? 2 : 0);
            if (!fifth) {
                x.undo();
            }
            x.weeks(1);
        }
        x.weeks(50);
        x.weeks(50);
        x.weeks(50);
        x.weeks(29);
        Check.due("WEEK", x.now(0), 199);
        Check.due("drop in WEEK 199", x.drop(0), 2);
        x.weeks(1);
        Check.due("drop when all are over", x.drop(0), 0);
    }

    private static void dropPaysIfSafe() {
        Check.of("the coin is PURSE times NEARNESS by 1000 (cut) more, if it is SAFE; .. a FLAG: how near it came");
        String office = "line 1 2;coin 0;cause a 0 4 99 9;deed d 3 0 0;deed e 4 0 0;deed f 20 0 0;clerk k 9;";
        int[] paid = {84, 0, 0, 0};
        int[] flags = {857, 1000, 1666, 0};
        for (int d = 0; d < 4; d++) {
            LostCauses x = Check.office(office);
            x.take(0, 0);
            if (d < 3) {
                x.act(0, d);
            }
            Check.due("pay", x.pay(0), paid[d]);
            Check.due("drop", x.drop(0), 0);
            Check.due("coin", x.now(1), paid[d]);
            Check.due("brought", x.clerk(0, 5), paid[d]);
            Check.due("FLAG", x.cause(0, 7), flags[d]);
            Check.due("FLAGS", x.now(6), 1);
            Check.due("STATE", x.cause(0, 4), 2);
        }
        LostCauses y = Check.office("line 6 11;coin 0;cause a 91 76 1 9;clerk k 9;");
        y.take(0, 0);
        y.drop(0);
        Check.due("1 times 999 by 1000", y.now(1), 0);
        Check.due("FLAG", y.cause(0, 7), 999);
    }

    private static void flagIsTheLatest() {
        Check.of("6: 7 its FLAG, the latest (NONE)");
        LostCauses x = Check.office("line 1 2;cause a 1 9 9 20;deed d 1 0 0;clerk k 9;");
        Check.due("none", x.cause(0, 7), -1);
        x.take(0, 0);
        Check.due("none yet", x.cause(0, 7), -1);
        x.drop(0);
        Check.due("first", x.cause(0, 7), 200);
        x.weeks(5);
        x.take(0, 0);
        x.act(0, 0);
        Check.due("the first till the next", x.cause(0, 7), 200);
        x.drop(0);
        Check.due("next", x.cause(0, 7), 363);
    }

    private static void refusedCallsChangeNothing() {
        Check.of("A CLERK takes .. / does .. / drops ..: 0, or why not (and then nothing is done)");
        LostCauses x = Check.office(DESK);
        x.take(0, 0);
        x.act(0, 0);
        x.take(1, 1);
        x.weeks(4);
        String before = Check.all(x);
        int[] whys = {x.take(0, 2), x.take(2, 0), x.take(5, 0), x.act(2, 0), x.act(0, 0), x.act(0, 3), x.act(0, 9),
            x.drop(0), x.drop(2), x.drop(7), x.weeks(0), x.weeks(51), x.drawn(0, 1), x.drawn(51, 1)};
        int[] due = {1, 2, -1, 1, 2, 5, -1, 2, 1, -1, -1, -1, -1, -1};
        for (int i = 0; i < due.length; i++) {
            Check.due("refused call " + i, whys[i], due[i]);
        }
        Check.same("all", Check.all(x), before);
        Check.due("what can be undone", x.undo(), 3);
    }
}
