/**
 * Edges that the document names of WAYS, VALUES, MATCH, REST, what PARTS, PLOTS (its part 3., promises 16 to 25):
 * a test for each sentence.
 */
public final class WaysEdgesTest {
    private static final int LEAST = Integer.MIN_VALUE;
    private static final int MOST = Integer.MAX_VALUE;
    private static final String WAYS = "line 1 2;coin 9;cause a 1 9 99 9;cause b 0 9 20 9;cause n 9 9 9 9;"
        + "rumour a 1 8;deed d 1 0 2;deed e 1 0 2;deed f 1 0 2;clerk k 2;clerk l 1;clerk m 9;";
    private static final String SIX = "deed u 0 0 0;deed v 0 0 0;deed w 0 0 0;deed x 0 0 0;deed y 0 0 0;deed z 0 0 0;";
    private static final String FIVE = "clerk k 1;clerk l 1;clerk m 1;clerk n 1;clerk o 1;";

    public static void main(String[] args) {
        nearestOfNoSuchOnes();
        nearestOfOneNotSafe();
        nearestByAtMost();
        nearestByOdds();
        nearestOfLikeOdds();
        safeAtFirst();
        safeBehindEach();
        notDoneYet();
        nearOfNoSuchOnes();
        nearInWhateverOrder();
        ordersOfNoSuchOnes();
        ordersOfNothingAndOfAll();
        waysOfNoSuchOnes();
        waysByAtMost();
        fewerDeedsThanBefore();
        valueOfNoSuchOnes();
        valueByZeal();
        valueOfOneNotOpen();
        valueLessItsCost();
        matchOfTheFree();
        matchOfAFullOffice();
        matchOfLikeOnes();
        matchOfTheLeastValue();
        matchedAheadOfAny();
        matchedOfNoSuchOnes();
        matchedByTheLatest();
        restsOfNone();
        restsOfAFullOffice();
        restsByHalves();
        restsOfTheFirstClerk();
        partsOfNone();
        partsByTheFewest();
        partsAtTheLine();
        partsWithAllThatWasDone();
        plotOfNone();
        plotByTheFewest();
        plotOfDeedsNotDone();
        Check.finish();
    }

    private static void nearestOfNoSuchOnes() {
        Check.of("16: n (0 to 6) .. NONE: .. no such ones");
        LostCauses x = Check.office(WAYS);
        int[][] none = {{0, -1}, {0, 7}, {0, LEAST}, {0, MOST}, {-1, 0}, {3, 0}, {6, 0}, {LEAST, 0}, {MOST, 6}};
        for (int[] one : none) {
            Check.due("nearest(" + one[0] + "," + one[1] + ")", x.nearest(one[0], one[1]), -1);
        }
        Check.due("of a new object", new LostCauses().nearest(0, 0), -1);
    }

    private static void nearestOfOneNotSafe() {
        Check.of("16: NONE: it is not SAFE");
        LostCauses x = Check.office(WAYS);
        for (int n = 0; n <= 6; n++) {
            Check.due("nearest(2," + n + ")", x.nearest(2, n), -1);
        }
    }

    private static void nearestByAtMost() {
        Check.of("WAYS of a CAUSE: sets of DEEDS .., n at most");
        LostCauses x = Check.office(WAYS);
        int[] due = {0, 1, 3, 7, 7, 7, 7};
        for (int n = 0; n <= 6; n++) {
            Check.due("nearest(0," + n + ")", x.nearest(0, n), due[n]);
        }
        Check.due("no DEEDS", Check.office("cause a 1 99 9 9;").nearest(0, 6), 0);
        Check.due("six", Check.office("cause a 1 99 9 9;deed u 1 0 1;deed v 1 0 1;deed w 1 0 1;deed x 1 0 1;"
            + "deed y 1 0 1;deed z 1 0 1;").nearest(0, 6), 63);
    }

    private static void nearestByOdds() {
        Check.of("The NEAREST has the greatest ODDS");
        LostCauses x = Check.office("line 98 99;cause a 1 99 9 9;deed d 1 20 0;deed e 1 19 20;");
        Check.due("NEARNESS of d", x.near(0, 1), 16);
        Check.due("NEARNESS of e, cut alike", x.near(0, 2), 16);
        Check.due("the greater ODDS, at more COST", x.nearest(0, 1), 2);
    }

    private static void nearestOfLikeOdds() {
        Check.of("of like ones the least COST in all, then the least as bits");
        LostCauses x = Check.office("line 1 2;cause a 1 9 9 9;deed d 2 0 5;deed e 2 0 3;deed f 2 0 3;clerk k 1;");
        Check.due("by one", x.nearest(0, 1), 2);
        Check.due("by two", x.nearest(0, 2), 6);
        LostCauses y = Check.office("line 2 5;cause a 1 9 9 9;deed d 4 0 5;deed e 2 0 2;deed f 2 0 2;");
        Check.due("one", y.nearest(0, 1), 1);
        Check.due("two of less COST than one", y.nearest(0, 2), 6);
        LostCauses w = Check.office("line 1 2;cause a 2 10 9 9;deed d 0 20 0;deed e 1 5 1;deed f 3 15 1;deed g 0 0 0;");
        Check.due("1 by 6 all, by other numbers: no DEED", w.nearest(0, 1), 0);
        LostCauses v = Check.office("line 1 2;cause a 2 10 9 9;deed d 4 0 9;deed e 3 0 1;deed f 1 0 8;");
        Check.due("d and e", v.nearest(0, 2), 3);
        Check.due("all come to the line", v.nearest(0, 3), 3);
        LostCauses u = Check.office("line 1 4;cause a 2 10 9 9;deed d 1 0 9;deed e 0 0 9;deed f 1 0 8;deed g 1 0 8;");
        Check.due("2 more is at the line: f, not g, not d", u.nearest(0, 4), 4);
    }

    private static void safeAtFirst() {
        Check.of("so that it is SAFE at first");
        LostCauses x = Check.office("line 1 2;cause a 9 9 9 9;deed d 0 1 0;clerk k 1;");
        Check.due("SAFE behind d", x.near(0, 1), 947);
        Check.due("nearest", x.nearest(0, 1), -1);
        Check.due("ways", x.ways(0, 1), 0);
        Check.due("orders of none", x.orders(0, 0), 0);
        Check.due("orders of d", x.orders(0, 1), 0);
    }

    private static void safeBehindEach() {
        Check.of("and behind each");
        LostCauses x = Check.office("line 1 2;cause a 0 4 9 9;deed d 4 0 0;deed e 0 1 0;");
        Check.due("d alone comes to the line", x.near(0, 1), 1000);
        Check.due("orders of d", x.orders(0, 1), 0);
        Check.due("e, then d", x.orders(0, 3), 1);
        Check.due("ways by 1", x.ways(0, 1), 2);
        Check.due("ways by 2", x.ways(0, 2), 3);
        Check.due("nearest by 1", x.nearest(0, 1), 0);
        Check.due("nearest by 2", x.nearest(0, 2), 3);
        LostCauses y = Check.office("line 1 2;cause a 0 4 9 9;deed d 4 0 0;deed e 4 0 0;deed f 0 9 0;");
        Check.due("f first, then the two", y.orders(0, 7), 2);
        Check.due("no order without f", y.orders(0, 3), 0);
    }

    private static void notDoneYet() {
        Check.of("sets of DEEDS not done for it yet");
        LostCauses x = Check.office(WAYS);
        x.take(2, 0);
        x.act(2, 1);
        Check.due("nearest", x.nearest(0, 6), 5);
        Check.due("ways", x.ways(0, 6), 4);
        Check.due("of another CAUSE", x.nearest(1, 6), 7);
        Check.due("ways of another", x.ways(1, 6), 8);
        x.weeks(1);
        x.act(2, 0);
        x.weeks(1);
        x.act(2, 2);
        Check.due("all were done", x.nearest(0, 6), 0);
        Check.due("one way is left", x.ways(0, 6), 1);
    }

    private static void nearOfNoSuchOnes() {
        Check.of("17: NONE: no such ones");
        LostCauses x = Check.office(WAYS);
        int[][] none = {{-1, 0}, {3, 0}, {LEAST, 0}, {MOST, 0}, {0, 8}, {0, 9}, {0, -1}, {0, LEAST}, {0, MOST}, {0, 64}};
        for (int[] one : none) {
            Check.due("near(" + one[0] + "," + one[1] + ")", x.near(one[0], one[1]), -1);
        }
        LostCauses y = Check.office("cause a 1 99 9 9;" + SIX);
        Check.due("all six", y.near(0, 63), 90);
        Check.due("a seventh", y.near(0, 64), -1);
        Check.due("no DEEDS: none", Check.office("cause a 1 99 9 9;").near(0, 0), 90);
        Check.due("no DEEDS: one", Check.office("cause a 1 99 9 9;").near(0, 1), -1);
        Check.of("17: (bits, not done yet, ..)");
        x.take(0, 0);
        x.act(0, 2);
        Check.due("done", x.near(0, 4), -1);
        Check.due("done, with another", x.near(0, 5), -1);
        Check.due("the others", x.near(0, 3), 615);
        Check.due("for another CAUSE", x.near(1, 4), 200);
    }

    private static void nearInWhateverOrder() {
        Check.of("17: in whatever order");
        LostCauses x = Check.office("line 1 2;cause a 9 9 9 9;deed d 9 0 0;deed e 0 9 0;");
        Check.due("not SAFE at first", x.near(0, 0), 1000);
        Check.due("not SAFE behind it", x.near(0, 1), 1333);
        Check.due("both", x.near(0, 3), 1000);
        Check.due("in no order", x.orders(0, 3), 0);
    }

    private static void ordersOfNoSuchOnes() {
        Check.of("18: ORDERS of a set (likewise); NONE: no such ones");
        LostCauses x = Check.office(WAYS);
        int[][] none = {{-1, 0}, {3, 0}, {LEAST, 0}, {MOST, 0}, {0, 8}, {0, 9}, {0, -1}, {0, LEAST}, {0, MOST}, {0, 64}};
        for (int[] one : none) {
            Check.due("orders(" + one[0] + "," + one[1] + ")", x.orders(one[0], one[1]), -1);
        }
        x.take(0, 0);
        x.act(0, 2);
        Check.due("done", x.orders(0, 4), -1);
        Check.due("done, with another", x.orders(0, 6), -1);
        Check.due("the others", x.orders(0, 3), 2);
        Check.due("no DEEDS: one", Check.office("cause a 1 99 9 9;").orders(0, 1), -1);
    }

    private static void ordersOfNothingAndOfAll() {
        Check.of("ORDERS of a set: in how many orders it can be done so");
        LostCauses x = Check.office("cause a 1 99 9 9;cause n 99 9 9 9;" + SIX);
        Check.due("of nothing", x.orders(0, 0), 1);
        Check.due("of nothing, not SAFE", x.orders(1, 0), 0);
        int[] sets = {1, 32, 33, 7, 60, 62, 63};
        int[] due = {1, 1, 2, 6, 24, 120, 720};
        for (int i = 0; i < sets.length; i++) {
            Check.due("orders(0," + sets[i] + ")", x.orders(0, sets[i]), due[i]);
        }
    }

    private static void waysOfNoSuchOnes() {
        Check.of("19: n (0 to 6) .. NONE: no such ones");
        LostCauses x = Check.office(WAYS);
        int[][] none = {{0, -1}, {0, 7}, {0, LEAST}, {0, MOST}, {-1, 0}, {3, 0}, {6, 0}, {LEAST, 0}, {MOST, 6}};
        for (int[] one : none) {
            Check.due("ways(" + one[0] + "," + one[1] + ")", x.ways(one[0], one[1]), -1);
        }
        Check.due("not SAFE: none, not NONE", x.ways(2, 6), 0);
    }

    private static void waysByAtMost() {
        Check.of("19: WAYS by n (0 to 6) DEEDS: how many");
        LostCauses x = Check.office("cause a 1 99 9 9;" + SIX);
        int[] due = {1, 7, 22, 42, 57, 63, 64};
        for (int n = 0; n <= 6; n++) {
            Check.due("ways(0," + n + ")", x.ways(0, n), due[n]);
        }
        Check.due("no DEEDS", Check.office("cause a 1 99 9 9;").ways(0, 6), 1);
    }

    private static void fewerDeedsThanBefore() {
        Check.of("WAYS of a CAUSE: of the OFFICE now");
        LostCauses x = Check.office("cause a 1 99 9 9;rumour a 1 98;deed u 9 0 1;deed v 1 0 1;deed w 1 0 1;deed x 1 0 1;"
            + "deed y 1 0 1;deed z 1 0 1;");
        x.ways(0, 6);
        x.image(0);
        Check.tape(x, "cause a 1 99 9 9;rumour a 1 98;clerk k 9;");
        x.office();
        Check.due("nearest", x.nearest(0, 6), 0);
        Check.due("ways", x.ways(0, 6), 1);
        Check.due("near", x.near(0, 1), -1);
        Check.due("plot", x.plot(0), -1);
        Check.due("parts", x.parts(0), -1);
        Check.due("value", x.value(0, 0), 0);
        x.restore(0);
        Check.due("ways of the image", x.ways(0, 6), 48);
        Check.due("u", x.near(0, 1), 825);
    }

    private static void valueOfNoSuchOnes() {
        Check.of("20: NoSuchElementException: no such ones");
        LostCauses x = Check.office(WAYS);
        int[] none = {-1, 3, 6, LEAST, MOST};
        for (int i : none) {
            Check.throwsNone("value(" + i + ",0)", () -> x.value(i, 0));
            Check.throwsNone("value(0," + i + ")", () -> x.value(0, i));
            Check.throwsNone("value(" + i + "," + i + ")", () -> x.value(i, i));
        }
        Check.due("the last ones", x.value(2, 2), 0);
        Check.throwsNone("no CLERKS", () -> Check.office("cause a 1 99 9 9;").value(0, 0));
        Check.throwsNone("no CAUSES", () -> Check.office("clerk k 1;").value(0, 0));
    }

    private static void valueByZeal() {
        Check.of("VALUE of a CAUSE for a CLERK: .. (cut) of the NEAREST by as many DEEDS as he has zeal, less its COST");
        LostCauses x = Check.office(WAYS);
        int[] due = {49 - 4, 35 - 2, 60 - 6};
        for (int k = 0; k < 3; k++) {
            Check.due("value(" + k + ",0)", x.value(k, 0), due[k]);
        }
        x.take(1, 1);
        x.act(1, 0);
        Check.due("zeal 0", x.value(1, 0), 19);
        x.weeks(2);
        Check.due("zeal 1", x.value(1, 0), 33);
    }

    private static void valueOfOneNotOpen() {
        Check.of("VALUE ..; 0, if it is not open or not SAFE");
        LostCauses x = Check.office("line 1 2;coin 9;cause a 1 9 99 9;cause b 1 9 99 1;cause n 9 9 99 9;deed d 20 0 0;"
            + "clerk k 9;clerk l 9;");
        Check.due("open", x.value(0, 0), 19);
        Check.due("not SAFE", x.value(0, 2), 0);
        x.take(0, 0);
        Check.due("taken, by himself", x.value(0, 0), 0);
        Check.due("taken", x.value(1, 0), 0);
        x.drop(0);
        Check.due("dropped", x.value(1, 0), 0);
        x.weeks(5);
        Check.due("open again", x.value(1, 0), 19);
        Check.due("dead", x.value(1, 1), 0);
        x.take(0, 0);
        x.act(0, 0);
        x.weeks(1);
        Check.due("won", x.value(1, 0), 0);
    }

    private static void valueLessItsCost() {
        Check.of("less its COST");
        LostCauses x = Check.office("line 1 2;coin 0;cause a 1 9 1 9;deed d 1 0 20;deed e 1 0 20;clerk k 1;clerk l 2;");
        Check.due("below 0", x.value(0, 0), -20);
        Check.due("below 0, two", x.value(1, 0), -40);
    }

    private static void matchOfTheFree() {
        Check.of("MATCH: each CLERK who is free has one CAUSE at most");
        LostCauses x = Check.office("line 1 2;cause a 1 9 50 9;cause b 1 9 50 9;clerk k 1;clerk l 1;");
        Check.due("both free", x.match(), 20);
        x.take(0, 0);
        Check.due("one free", x.match(), 10);
        Check.due("not the first", x.matched(0), -1);
        Check.due("the second", x.matched(1), 1);
        x.take(1, 1);
        Check.due("none free, none open", x.match(), 0);
        LostCauses y = Check.office("line 1 2;cause a 1 9 50 9;cause b 1 9 50 9;clerk k 1;");
        y.take(0, 0);
        Check.due("none free, one open", y.match(), 0);
        Check.due("nobody", y.matched(0), -1);
        Check.due("no CLERKS", Check.office("cause a 1 9 9 9;").match(), 0);
        Check.due("no CAUSES", Check.office("clerk k 1;").match(), 0);
    }

    private static void matchOfAFullOffice() {
        Check.of("each CAUSE one at most: the greatest VALUES together");
        StringBuilder text = new StringBuilder("line 1 2;");
        for (int c = 0; c < 6; c++) {
            text.append("cause c" + (char) ('a' + c) + " 1 9 " + (c == 2 ? 5 : 50) + " 9;");
        }
        LostCauses x = Check.office(text + FIVE);
        Check.due("all but the one of the least VALUE", x.match(), 50);
        int[] due = {0, 1, 3, 4, 5};
        for (int k = 0; k < 5; k++) {
            Check.due("matched(" + k + ")", x.matched(k), due[k]);
        }
    }

    private static void matchOfLikeOnes() {
        Check.of("of like ones the first (CLERK by CLERK nobody ahead of all, then by CAUSES)");
        LostCauses x = Check.office("line 1 2;cause a 1 9 50 9;cause b 1 9 50 9;cause z 0 9 9 9;" + FIVE);
        Check.due("two of five", x.match(), 20);
        int[] due = {-1, -1, -1, 0, 1};
        for (int k = 0; k < 5; k++) {
            Check.due("matched(" + k + ")", x.matched(k), due[k]);
        }
        LostCauses y = Check.office("line 1 2;cause a 1 9 50 9;cause b 1 9 50 9;cause c 1 9 50 9;clerk k 1;clerk l 1;");
        y.match();
        Check.due("the first CAUSE", y.matched(0), 0);
        Check.due("then the next", y.matched(1), 1);
    }

    private static void matchOfTheLeastValue() {
        Check.of("the greatest VALUES together; nobody ahead of all");
        LostCauses x = Check.office("line 1 2;cause a 1 9 5 9;clerk k 1;");
        Check.due("1", x.match(), 1);
        Check.due("him", x.matched(0), 0);
        LostCauses y = Check.office("line 1 2;cause a 1 9 4 9;clerk k 1;");
        Check.due("0", y.match(), 0);
        Check.due("nobody", y.matched(0), -1);
        LostCauses z = Check.office("line 1 2;cause a 1 9 4 9;deed d 1 0 20;clerk k 1;");
        Check.due("below 0", z.match(), 0);
        Check.due("nobody", z.matched(0), -1);
    }

    private static void matchedAheadOfAny() {
        Check.of("22: NONE: .. ahead of any");
        LostCauses x = Check.office("line 1 2;cause a 1 9 50 9;" + FIVE);
        for (int k = 0; k < 5; k++) {
            Check.due("matched(" + k + ")", x.matched(k), -1);
        }
    }

    private static void matchedOfNoSuchOnes() {
        Check.of("22: NONE: none, no such one");
        LostCauses x = Check.office("line 1 2;cause a 1 9 50 9;cause b 1 9 50 9;clerk k 1;clerk l 1;");
        x.match();
        int[] none = {-1, 2, 3, 4, 5, 6, LEAST, MOST};
        for (int k : none) {
            Check.due("matched(" + k + ")", x.matched(k), -1);
        }
        Check.due("the last one", x.matched(1), 1);
    }

    private static void matchedByTheLatest() {
        Check.of("22: by the latest match()");
        LostCauses x = Check.office("line 1 2;cause a 1 9 50 9;cause b 1 9 50 9;clerk k 1;clerk l 1;");
        x.match();
        x.take(1, 0);
        x.weeks(3);
        Check.due("not of what is so now", x.matched(0) * 10 + x.matched(1), 1);
        x.match();
        Check.due("of the latest: k", x.matched(0), 1);
        Check.due("of the latest: l", x.matched(1), -1);
        Check.tape(x, "cause a 1 9 50 9;cause b 1 9 50 9;");
        x.office();
        Check.due("with an OFFICE of no CLERKS", x.matched(0), 1);
        x.match();
        Check.due("and none by a match of none", x.matched(0), -1);
    }

    private static void restsOfNone() {
        Check.of("23: NONE: none such, no CLERKS");
        LostCauses none = Check.office("line 1 2;cause a 1 9 50 9;");
        int[] all = {-1, 0, 1, -2};
        for (int k : all) {
            Check.due("no CLERKS: rests(" + k + ")", none.rests(k), -1);
        }
        LostCauses x = Check.office("line 1 2;cause n 9 9 50 9;cause d 1 9 50 1;clerk k 1;");
        Check.due("one pair", x.rests(-1), 1);
        Check.due("it", x.rests(0), 11);
        int[] others = {1, 2, -2, LEAST, MOST};
        for (int k : others) {
            Check.due("rests(" + k + ")", x.rests(k), -1);
        }
        x.weeks(1);
        Check.due("not SAFE, dead: no pairs", x.rests(-1), 0);
        Check.due("the first of none", x.rests(0), -1);
        Check.due("no CAUSES", Check.office("clerk k 1;").rests(-1), 0);
    }

    private static void restsOfAFullOffice() {
        Check.of("23: 10 times this one's CAUSE and the other's (rising)");
        StringBuilder text = new StringBuilder("line 1 2;");
        for (int c = 0; c < 6; c++) {
            text.append("cause c" + (char) ('a' + c) + " 1 9 50 9;");
        }
        LostCauses x = Check.office(text + FIVE);
        Check.due("all pairs of two", x.rests(-1), 30);
        int k = 0;
        for (int mine = 0; mine < 6; mine++) {
            for (int other = 0; other < 6; other++) {
                if (mine != other) {
                    Check.due("rests(" + k + ")", x.rests(k), 10 * mine + other);
                    k++;
                }
            }
        }
        Check.due("one more", x.rests(30), -1);
        LostCauses y = Check.office(text.toString().replace("line 1 2", "line 98 99") + "clerk k 9;");
        Check.due("by a line that most are below", y.rests(-1), 30);
        Check.due("the first CLERK, one of six CAUSES", y.match(), 5);
        LostCauses z = Check.office(text.toString().replace("50", "4") + "clerk k 9;");
        Check.due("of VALUE 0 all rest", z.rests(-1), 36);
        Check.due("the first", z.rests(0), 0);
        Check.due("the last", z.rests(35), 55);
    }

    private static void restsByHalves() {
        Check.of("half (cut) if both take the same one. REST: neither has more by another CAUSE alone");
        String[] offices = {
            "line 1 2;cause a 1 3 50 9;cause b 1 3 24 9;clerk k 1;",
            "line 1 2;cause a 1 3 50 9;cause b 1 3 26 9;clerk k 1;",
            "line 1 2;cause a 1 3 48 9;cause b 1 3 24 9;clerk k 1;"};
        int[][] values = {{25, 12}, {25, 13}, {24, 12}};
        int[][] due = {{0, 1, 10}, {1, 10}, {0, 1, 10}};
        for (int i = 0; i < 3; i++) {
            LostCauses x = Check.office(offices[i]);
            Check.due("VALUE of a", x.value(0, 0), values[i][0]);
            Check.due("VALUE of b", x.value(0, 1), values[i][1]);
            Check.due("pairs of " + offices[i], x.rests(-1), due[i].length);
            for (int k = 0; k < due[i].length; k++) {
                Check.due("pair " + k, x.rests(k), due[i][k]);
            }
        }
    }

    private static void restsOfTheFirstClerk() {
        Check.of("like this one with its first CLERK: .. VALUE for that CLERK each (also if he has one)");
        String office = "line 1 2;coin 99;cause a 1 9 10 20;cause b 1 9 8 20;cause c 1 9 99 20;deed d 1 0 1;deed e 1 0 1;";
        LostCauses x = Check.office(office + "clerk k 1;clerk l 9;");
        Check.due("VALUES by zeal 1", x.value(0, 0) * 100 + x.value(0, 1) * 10 + x.value(0, 2), 200 + 10 + 34);
        Check.due("both take c", x.rests(0), 22);
        Check.due("alone", x.rests(-1), 1);
        x.take(0, 2);
        Check.due("c is not open", x.rests(-1), 3);
        Check.due("both a", x.rests(0), 0);
        Check.due("a and b", x.rests(1), 1);
        x.act(0, 0);
        Check.due("zeal 0: VALUES 2 and 1", x.value(0, 0) * 10 + x.value(0, 1), 21);
        Check.due("likewise", x.rests(-1), 3);
    }

    private static void partsOfNone() {
        Check.of("24: NONE: none do, no rumour, no such one");
        LostCauses x = Check.office(WAYS);
        int[] none = {-1, 3, 6, LEAST, MOST};
        for (int c : none) {
            Check.due("parts(" + c + ")", x.parts(c), -1);
        }
        Check.due("no rumour", x.parts(1), -1);
        Check.due("none do", Check.office("line 1 2;cause a 0 9 9 9;rumour a 0 9;deed d 20 0 0;").parts(0), -1);
        Check.due("none do, no DEEDS", Check.office("line 1 2;cause a 0 9 9 9;rumour a 1 9;").parts(0), -1);
        Check.of("24: 0: they part now");
        Check.due("the rumour is not SAFE", Check.office("line 1 2;cause a 8 9 9 9;rumour a 9 9;").parts(0), 0);
        Check.due("it is not SAFE", Check.office("line 1 2;cause a 9 9 9 9;rumour a 8 9;deed d 1 0 0;").parts(0), 0);
        Check.due("behind DEEDS too", Check.office("line 1 2;cause a 8 9 9 9;rumour a 9 9;deed d 0 0 0;").parts(0), 0);
    }

    private static void partsByTheFewest() {
        Check.of("PARTS a rumour: the fewest DEEDS; of like ones the least");
        String office = "line 1 2;cause a 0 9 9 9;rumour a 1 9;";
        String[] deeds = {"deed d 4 0 0;deed e 4 0 0;deed f 8 0 0;", "deed d 9 0 0;deed e 8 0 0;deed f 8 0 0;",
            "deed d 4 0 9;deed e 4 0 0;deed f 4 0 0;", "deed d 3 0 0;deed e 4 0 0;deed f 4 0 0;",
            "deed u 1 0 0;deed v 1 0 0;deed w 1 0 0;deed x 1 0 0;deed y 2 0 0;deed z 2 0 0;",
            "deed u 9 0 0;deed v 9 0 0;deed w 9 0 0;deed x 9 0 0;deed y 9 0 0;deed z 8 0 0;"};
        int[] due = {4, 2, 3, 6, 63, 32};
        for (int i = 0; i < due.length; i++) {
            Check.due("parts by " + deeds[i], Check.office(office + deeds[i]).parts(0), due[i]);
        }
        StringBuilder text = new StringBuilder("line 1 2;deed d 1 0 0;");
        for (int c = 0; c < 6; c++) {
            text.append("cause c" + (char) ('a' + c) + " " + c + " 9 9 9;rumour c" + (char) ('a' + c) + " 8 9;");
        }
        LostCauses x = Check.office(text.toString());
        Check.due("six rumours", x.count(3), 6);
        for (int c = 0; c < 6; c++) {
            Check.due("parts(" + c + ")", x.parts(c), 1);
        }
        LostCauses y = Check.office("line 1 2;cause a 1 9 9 9;cause b 2 9 9 9;cause c 3 9 9 9;rumour b 9 9;");
        Check.due("of the first", y.parts(0), -1);
        Check.due("of the second", y.parts(1), 0);
        Check.due("of the third", y.parts(2), -1);
    }

    private static void partsAtTheLine() {
        Check.of("one of both .. is SAFE and the other is not");
        Check.due("at the line", Check.office("line 1 2;cause a 1 9 9 9;rumour a 2 9;deed d 7 0 0;").parts(0), 1);
        Check.due("beyond it", Check.office("line 1 2;cause a 1 9 9 9;rumour a 2 9;deed d 8 0 0;").parts(0), -1);
        Check.due("ahead of it", Check.office("line 1 2;cause a 1 9 9 9;rumour a 2 9;deed d 6 0 0;").parts(0), -1);
        Check.due("by AGAINST", Check.office("line 1 2;cause a 9 9 9 9;rumour a 9 8;deed d 0 1 0;").parts(0), 1);
    }

    private static void partsWithAllThatWasDone() {
        Check.of("(as it is; as the rumour has it, with all that was done)");
        LostCauses x = Check.office("line 1 2;cause a 0 9 9 9;rumour a 1 9;deed d 4 0 0;deed e 4 0 0;deed f 8 0 0;"
            + "clerk k 9;");
        x.take(0, 0);
        x.act(0, 1);
        Check.due("d, with e", x.parts(0), 1);
        x.weeks(1);
        x.act(0, 0);
        Check.due("now", x.parts(0), 0);
        x.weeks(1);
        x.act(0, 2);
        Check.due("no more", x.parts(0), -1);
        LostCauses y = Check.office("line 1 2;cause a 9 19 9 9;rumour a 19 10;deed d 0 5 0;deed e 0 5 0;deed f 10 0 0;"
            + "clerk k 9;");
        Check.due("now", y.parts(0), 0);
        y.take(0, 0);
        y.act(0, 0);
        Check.due("SAFE, and 19 by 15", y.parts(0), 0);
        y.weeks(1);
        y.act(0, 1);
        Check.due("SAFE, and 19 by 20: f parts them", y.parts(0), 4);
    }

    private static void plotOfNone() {
        Check.of("25: NONE: none, no such one");
        LostCauses x = Check.office("line 1 2;cause a 0 9 9 9;cause b 9 9 9 9;deed d 8 0 0;deed e 0 9 0;");
        int[] none = {-1, 2, 6, LEAST, MOST};
        for (int c : none) {
            Check.due("plot(" + c + ")", x.plot(c), -1);
        }
        Check.due("none", x.plot(0), -1);
        Check.due("no DEEDS", Check.office("line 1 2;cause a 0 9 9 9;").plot(0), -1);
        Check.of("PLOT: .. (0: it is not now)");
        Check.due("at the line", x.plot(1), 0);
        Check.due("no DEEDS", Check.office("line 1 2;cause a 9 9 9 9;").plot(0), 0);
    }

    private static void plotByTheFewest() {
        Check.of("PLOT: the fewest; of like ones the least COST in all, then the least as bits");
        String office = "line 1 2;cause a 0 9 9 9;";
        String[] deeds = {"deed d 5 0 0;deed e 5 0 0;deed f 9 0 20;", "deed d 9 0 5;deed e 9 0 4;deed f 9 0 4;",
            "deed d 5 0 3;deed e 5 0 3;deed f 5 0 2;deed g 5 0 3;", "deed d 5 0 2;deed e 5 0 2;deed f 4 0 1;deed g 4 0 0;",
            "deed u 1 0 0;deed v 1 0 0;deed w 1 0 0;deed x 2 0 0;deed y 2 0 0;deed z 2 0 0;",
            "deed u 8 0 0;deed v 1 9 0;deed w 0 0 0;deed x 1 0 0;deed y 9 9 0;deed z 9 0 9;"};
        int[] due = {4, 2, 5, 9, 63, 32};
        for (int i = 0; i < due.length; i++) {
            Check.due("plot by " + deeds[i], Check.office(office + deeds[i]).plot(0), due[i]);
        }
    }

    private static void plotOfDeedsNotDone() {
        Check.of("PLOT: the fewest (DEEDS not done yet)");
        LostCauses x = Check.office("line 1 2;cause a 0 20 9 9;cause b 0 20 9 9;deed d 9 0 0;deed e 11 0 0;deed f 10 0 0;"
            + "deed g 10 0 0;clerk k 9;");
        Check.due("two", x.plot(0), 3);
        x.take(0, 0);
        x.act(0, 0);
        Check.due("of the others", x.plot(0), 2);
        Check.due("of another CAUSE", x.plot(1), 3);
    }
}
