/** Promises 16 to 25: WAYS, VALUES, MATCH, REST, rumours that DEEDS PART, PLOTS. */
public final class WaysTest {
    private static final String OFFICE = DeskTest.OFFICE;

    public static void main(String[] args) {
        nearest();
        nearestOfLike();
        near();
        orders();
        ways();
        values();
        match();
        matchedStays();
        matchOfLike();
        rests();
        restsOfBadValues();
        parts();
        plot();
        Check.finish();
    }

    private static void nearest() {
        LostCauses x = Check.office(OFFICE);
        int[] due = {0, 2, 2, 7, 7, 7, 7};
        for (int n = 0; n < due.length; n++) {
            Check.due("nearest(0," + n + ")", x.nearest(0, n), due[n]);
        }
        Check.due("of one that is not SAFE", x.nearest(1, 3), -1);
        Check.due("by -1", x.nearest(0, -1), -1);
        Check.due("by 7", x.nearest(0, 7), -1);
        Check.due("no such CAUSE", x.nearest(3, 1), -1);
        Check.due("no such CAUSE", x.nearest(-1, 1), -1);
        x.take(0, 0);
        x.act(0, 1);
        Check.due("of those not done yet", x.nearest(0, 6), 5);
        Check.due("coin and zeal do not matter", x.nearest(0, 2), 5);
        x.drop(0);
        Check.due("nor the STATE", x.nearest(0, 6), 5);
    }

    private static void nearestOfLike() {
        LostCauses x = Check.office("line 1 2;cause a 1 9 9 9;deed d 2 0 5;deed e 2 0 3;deed f 2 0 3;deed g 0 0 0;clerk k 1;");
        Check.due("the least COST, then the least bits", x.nearest(0, 1), 2);
        Check.due("two", x.nearest(0, 2), 6);
        Check.due("three", x.nearest(0, 6), 7);
        LostCauses y = Check.office("line 1 2;cause a 1 4 9 9;deed d 2 8 0;deed e 1 4 0;");
        Check.due("like ODDS by other numbers, no COST: nothing", y.nearest(0, 6), 0);
        LostCauses z = Check.office("line 1 2;cause a 0 4 9 9;deed d 1 0 0;deed e 1 5 0;deed f 4 0 0;");
        Check.due("the line is not come to", z.nearest(0, 6), 7);
        Check.due("at it", z.near(0, 4), 1000);
        Check.due("ORDERS: e ahead of f", z.orders(0, 6), 1);
    }

    private static void near() {
        LostCauses x = Check.office(OFFICE);
        Check.due("near(0,0)", x.near(0, 0), 250);
        Check.due("near(0,2)", x.near(0, 2), 869);
        Check.due("near(0,3)", x.near(0, 3), 1153);
        Check.due("near(0,7)", x.near(0, 7), 967);
        Check.due("near(1,7)", x.near(1, 7), 1739);
        Check.due("no such DEED", x.near(0, 8), -1);
        Check.due("no such set", x.near(0, -1), -1);
        Check.due("no such CAUSE", x.near(3, 0), -1);
        Check.due("far off", x.near(0, Integer.MIN_VALUE), -1);
        x.take(0, 0);
        x.act(0, 1);
        Check.due("done already", x.near(0, 2), -1);
        Check.due("done already, and another", x.near(0, 3), -1);
        Check.due("the other", x.near(0, 1), 1153);
    }

    private static void orders() {
        LostCauses x = Check.office(OFFICE);
        int[] due = {1, 1, 1, 0, 1, 2, 2, 4};
        for (int set = 0; set < due.length; set++) {
            Check.due("orders(0," + set + ")", x.orders(0, set), due[set]);
        }
        Check.due("not SAFE at first, though behind", x.orders(1, 4), 0);
        Check.due("no such DEED", x.orders(0, 8), -1);
        Check.due("no such set", x.orders(0, -8), -1);
        Check.due("no such CAUSE", x.orders(-1, 0), -1);
        x.take(0, 0);
        x.act(0, 0);
        Check.due("done already", x.orders(0, 1), -1);
        LostCauses y = Check.office("cause a 0 1 1 1;"
            + "deed b 0 0 0;deed c 0 0 0;deed d 0 0 0;deed e 0 0 0;deed f 0 0 0;deed g 0 0 0;");
        Check.due("of six", y.orders(0, 63), 720);
        Check.due("ways of six", y.ways(0, 6), 64);
    }

    private static void ways() {
        LostCauses x = Check.office(OFFICE);
        int[] due = {1, 4, 6, 7, 7, 7, 7};
        for (int n = 0; n < due.length; n++) {
            Check.due("ways(0," + n + ")", x.ways(0, n), due[n]);
        }
        Check.due("of one that is not SAFE", x.ways(1, 0), 0);
        Check.due("by -1", x.ways(0, -1), -1);
        Check.due("by 7", x.ways(0, 7), -1);
        Check.due("no such CAUSE", x.ways(3, 0), -1);
        x.take(0, 0);
        x.act(0, 1);
        Check.due("of those not done yet", x.ways(0, 6), 3);
    }

    private static void values() {
        LostCauses x = Check.office(OFFICE);
        Check.due("value(0,0)", x.value(0, 0), 74);
        Check.due("value(0,1)", x.value(0, 1), 0);
        Check.due("value(0,2)", x.value(0, 2), 12);
        Check.due("value(1,2), by one DEED", x.value(1, 2), 0);
        x.take(0, 2);
        Check.due("also for one who has one", x.value(0, 0), 74);
        Check.due("not open", x.value(1, 2), 0);
        x.act(0, 2);
        Check.due("by the zeal that he has", x.value(0, 0), 74);
        Check.throwsNone("no such CLERK", () -> x.value(2, 0));
        Check.throwsNone("no such CLERK", () -> x.value(-1, 0));
        Check.throwsNone("no such CAUSE", () -> x.value(0, 3));
        Check.throwsNone("no such CAUSE", () -> x.value(0, -1));
        LostCauses y = Check.office("line 1 2;cause a 1 9 1 9;cause b 0 9 9 9;deed d 1 0 20;clerk k 1;clerk l 1;");
        Check.due("COST above what is paid", y.value(0, 0), -20);
        Check.due("not matched then", y.match(), 0);
        Check.due("nobody", y.matched(0), -1);
        y.take(0, 0);
        y.act(0, 0);
        y.drop(0);
        Check.due("no zeal, no DEED", y.value(0, 1), 0);
        Check.due("zeal", y.value(1, 1), 9 * 200 / 1000 - 20);
    }

    private static void match() {
        LostCauses x = Check.office(OFFICE);
        Check.due("ahead of any", x.matched(0), -1);
        Check.due("match()", x.match(), 86);
        Check.due("matched(0)", x.matched(0), 2);
        Check.due("matched(1)", x.matched(1), 0);
        Check.due("matched(2)", x.matched(2), -1);
        Check.due("matched(-1)", x.matched(-1), -1);
        x.take(0, 2);
        Check.due("the latest stays", x.matched(0), 2);
        Check.due("match() of the free", x.match(), 74);
        Check.due("matched(0), not free", x.matched(0), -1);
        Check.due("matched(1)", x.matched(1), 0);
        Check.tape(x, "cause a 0 9 9 9;clerk k 1;clerk l 1;");
        x.office();
        Check.due("it stays with a new OFFICE", x.matched(1), 0);
    }

    private static void matchedStays() {
        LostCauses x = Check.office(OFFICE);
        x.image(1);
        x.match();
        Check.due("an OFFICE of no LINES", x.office(), 0);
        Check.due("no CLERKS now, the match stays", x.matched(0), 2);
        Check.due("the other CLERK's too", x.matched(1), 0);
        Check.due("nobody told of", x.matched(2), -1);
        Check.due("no such one", x.matched(5), -1);
        Check.due("no such one", x.matched(Integer.MIN_VALUE), -1);
        Check.due("no such one", x.matched(Integer.MAX_VALUE), -1);
        x.image(0);
        x.restore(1);
        Check.due("it stays with restore()", x.matched(0), 2);
        x.restore(0);
        Check.due("of an OFFICE with no CLERKS too", x.matched(1), 0);
        Check.due("a match of no CLERKS", x.match(), 0);
        Check.due("is the latest then", x.matched(0), -1);
        Check.due("for all", x.matched(1), -1);
        Check.tape(x, "clerk k");
        Check.due("an OFFICE with a FAULT", x.office(), -8);
        Check.due("changes nothing", x.matched(0), -1);
    }

    private static void matchOfLike() {
        LostCauses x = Check.office("line 1 2;cause a 1 3 50 9;cause b 1 3 50 9;clerk k 1;clerk l 1;clerk m 1;");
        Check.due("two of three", x.match(), 50);
        Check.due("nobody first", x.matched(0), -1);
        Check.due("then the first CAUSE", x.matched(1), 0);
        Check.due("then the second", x.matched(2), 1);
        LostCauses y = Check.office("line 1 2;cause z 0 3 50 9;cause a 1 3 50 9;cause b 1 3 50 9;clerk k 1;clerk l 1;");
        Check.due("all", y.match(), 50);
        Check.due("not one of no VALUE", y.matched(0), 1);
        Check.due("the other", y.matched(1), 2);
        Check.due("no CLERKS", Check.office("cause a 1 3 9 9;").match(), 0);
    }

    private static void rests() {
        LostCauses x = Check.office(OFFICE);
        Check.due("how many", x.rests(-1), 1);
        Check.due("the first", x.rests(0), 0);
        Check.due("none such", x.rests(1), -1);
        Check.due("none such", x.rests(-2), -1);
        LostCauses y = Check.office("line 1 2;cause a 1 3 50 9;cause b 1 3 50 9;cause c 9 3 99 9;clerk k 1;");
        Check.due("both ways", y.rests(-1), 2);
        Check.due("first", y.rests(0), 1);
        Check.due("second", y.rests(1), 10);
        Check.due("third", y.rests(2), -1);
        y.take(0, 0);
        Check.due("one is left, also if he has one", y.rests(-1), 1);
        Check.due("it", y.rests(0), 11);
        y.drop(0);
        Check.due("a dropped one is not open", y.rests(0), 11);
        LostCauses z = Check.office("line 1 2;cause a 1 3 51 9;cause b 1 7 51 9;clerk k 1;");
        Check.due("25 cut to 12, 12 else: all but both second", z.rests(-1), 3);
        Check.due("00", z.rests(0), 0);
        Check.due("01", z.rests(1), 1);
        Check.due("10", z.rests(2), 10);
        Check.due("no CLERKS", Check.office("cause a 1 3 9 9;").rests(-1), -1);
        Check.due("no CAUSES", Check.office("clerk k 1;").rests(-1), 0);
        Check.due("no CAUSES, the first", Check.office("clerk k 1;").rests(0), -1);
    }

    private static void restsOfBadValues() {
        LostCauses x = Check.office("line 1 2;cause a 1 9 1 9;deed d 1 0 3;clerk k 1;");
        Check.due("value", x.value(0, 0), -3);
        Check.due("both take it, there is no other", x.rests(0), 0);
        LostCauses y = Check.office("line 1 2;cause a 1 9 1 9;cause b 5 20 5 9;deed d 1 0 3;clerk k 1;");
        Check.due("value", y.value(0, 1), -1);
        Check.due("-1 halved is 0, -3 halved is -1", y.rests(-1), 2);
        Check.due("both a", y.rests(0), 0);
        Check.due("both b", y.rests(1), 11);
    }

    private static void parts() {
        LostCauses x = Check.office(OFFICE);
        Check.due("the fewest", x.parts(0), 1);
        Check.due("no rumour", x.parts(1), -1);
        Check.due("no such one", x.parts(3), -1);
        Check.due("no such one", x.parts(-1), -1);
        x.take(0, 0);
        x.act(0, 1);
        Check.due("with all that was done: now", x.parts(0), 0);
        LostCauses y = Check.office("line 1 2;cause a 0 9 9 9;rumour a 1 9;deed d 4 0 0;deed e 4 0 0;deed f 8 1 0;clerk k 9;");
        Check.due("two, the least as bits", y.parts(0), 3);
        y.take(0, 0);
        y.act(0, 2);
        Check.due("behind the third none but none", y.parts(0), -1);
        LostCauses w = Check.office("line 1 2;cause a 0 4 9 9;rumour a 1 4;deed d 3 0 0;deed e 0 3 0;deed f 2 1 0;clerk k 9;");
        Check.due("d alone", w.parts(0), 1);
        w.take(0, 0);
        w.act(0, 1);
        Check.due("d is not enough, d and f are too", w.parts(0), -1);
        LostCauses v = Check.office("line 1 2;cause a 0 4 9 9;rumour a 1 4;deed d 3 0 0;deed e 0 2 0;deed f 2 0 0;clerk k 9;");
        v.take(0, 0);
        v.act(0, 1);
        Check.due("with e that was done: d and f", v.parts(0), 5);
        LostCauses z = Check.office("line 1 2;cause a 3 9 9 9;rumour a 3 9;deed d 9 0 0;");
        Check.due("a rumour that is so", z.parts(0), -1);
    }

    private static void plot() {
        LostCauses x = Check.office(OFFICE);
        Check.due("the fewest", x.plot(0), 3);
        Check.due("not SAFE now", x.plot(1), 0);
        Check.due("one", x.plot(2), 1);
        Check.due("no such one", x.plot(3), -1);
        Check.due("no such one", x.plot(-1), -1);
        LostCauses y = Check.office("line 1 2;cause a 0 9 9 9;deed d 9 0 3;deed e 9 0 2;deed f 9 0 2;deed g 5 0 0;"
            + "deed h 5 0 0;clerk k 9;");
        Check.due("the least COST, then the least bits", y.plot(0), 2);
        y.take(0, 0);
        y.act(0, 4);
        Check.due("of those not done yet, fewest first", y.plot(0), 8);
        Check.due("none", Check.office("cause a 0 9 9 9;deed d 0 9 0;").plot(0), -1);
    }
}
