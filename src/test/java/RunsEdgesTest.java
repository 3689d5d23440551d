/**
 * Edges that the document names of SCHOOLS, FLAGS, WEEKS by draws (its part 3., promises 27 to 30, 34, 35): a test
 * for each sentence.
 */
public final class RunsEdgesTest {
    private static final int LEAST = Integer.MIN_VALUE;
    private static final int MOST = Integer.MAX_VALUE;
    private static final String ONE = "line 1 2;coin 9;cause a 1 9 50 20;deed d 0 20 0;deed e 1 0 2;deed f 1 0 3;";
    private static final String DRAWN = "line 1 2;coin 60;cause a 1 4 50 20;cause b 1 9 30 20;deed e 1 0 1;deed f 0 1 1;"
        + "deed g 2 3 2;clerk k 3;clerk l 9;";

    public static void main(String[] args) {
        schoolOfNoSuchOnes();
        schoolOfNobody();
        schoolWhenFewWeeksAreLeft();
        schoolChangesNothing();
        schoolsTakeTheFirst();
        schoolDropsAtOnce();
        schoolWaitsInAFifthWeek();
        schoolOfTheNearest();
        schoolIfItCanBeDone();
        schoolOfNoDeed();
        schoolOfTheFirstDeed();
        schoolOfNoneThatCan();
        bestOfNoSuchN();
        bestOfLikeOnes();
        flagsNotAsTold();
        flagsOfBytes();
        flagsOfWhatItWasAtFirst();
        flagsOfAllDeeds();
        triedOfAllThese();
        triedByTheLatest();
        drawnNotAsTold();
        drawnAsManyAsAreLeft();
        drawnOfNoCauses();
        drawnOfNoDeeds();
        drawnWraps();
        riskNotAsTold();
        riskOfSeeds();
        riskOfNewDisgraces();
        riskOfTwentyWeeks();
        riskWhenFewWeeksAreLeft();
        riskChangesNothing();
        Check.finish();
    }

    private static void schoolOfNoSuchOnes() {
        Check.of("27: n (1 to 50) WEEKS by a SCHOOL (0 to 2); NONE: no such ones");
        LostCauses x = Check.office(ONE + "clerk k 2;");
        int[][] none = {{-1, 1}, {3, 1}, {LEAST, 1}, {MOST, 1}, {0, 0}, {1, 51}, {2, -1}, {0, LEAST}, {0, MOST}, {3, 0}};
        for (int[] one : none) {
            Check.due("school(" + one[0] + "," + one[1] + ")", x.school(one[0], one[1]), -1);
        }
        Check.due("the most WEEKS", x.school(1, 50) >= 0, true);
    }

    private static void schoolOfNobody() {
        Check.of("27: The coin behind n WEEKS (of nobody)");
        for (int s = 0; s < 3; s++) {
            Check.due("no CLERKS", Check.office("coin 999;cause a 1 9 9 9;deed d 1 0 1;").school(s, 50), 999);
            Check.due("no CAUSES", Check.office("coin 0;deed d 1 0 0;clerk k 1;").school(s, 50), 0);
            Check.due("a new object", new LostCauses().school(s, 1), 50);
        }
    }

    private static void schoolWhenFewWeeksAreLeft() {
        Check.of("27: n (1 to 50) WEEKS (200: all are over)");
        LostCauses x = Check.office("line 1 2;coin 0;cause a 1 9 50 20;cause b 1 9 40 20;clerk k 1;");
        x.take(0, 1);
        for (int i = 0; i < 39; i++) {
            x.weeks(5);
        }
        x.drop(0);
        x.weeks(2);
        Check.due("WEEK", x.now(0), 197);
        Check.due("coin", x.now(1), 8);
        Check.due("b is not open ahead of the end, a is dead", x.school(0, 50), 8);
        LostCauses y = Check.office("line 1 2;coin 0;cause a 1 9 50 20;clerk k 1;");
        y.take(0, 0);
        for (int i = 0; i < 39; i++) {
            y.weeks(5);
        }
        y.weeks(4);
        Check.due("WEEK", y.now(0), 199);
        Check.due("a fifth WEEK, the last", y.school(0, 1), 0);
        Check.due("none behind it", y.school(0, 50), 0);
        y.weeks(1);
        Check.due("all are over", y.school(0, 50), 0);
        Check.due("though he could drop", y.drop(0), 0);
    }

    private static void schoolChangesNothing() {
        Check.of("27: The coin behind .. (all stays as it is)");
        LostCauses x = Check.office(ONE + "clerk k 2;clerk l 3;");
        x.take(1, 0);
        String before = Check.all(x);
        for (int s = 0; s < 3; s++) {
            x.school(s, 50);
        }
        x.best(50);
        Check.same("all", Check.all(x), before);
        Check.due("what can be undone", x.undo(), 0);
    }

    private static void schoolsTakeTheFirst() {
        Check.of("one who is free takes the first open CAUSE that is SAFE");
        LostCauses x = Check.office("line 1 2;coin 0;cause n 9 9 99 20;cause d 1 9 99 1;cause t 1 9 90 20;cause a 1 9 50 20;"
            + "cause b 1 9 30 20;clerk k 1;clerk l 1;");
        x.take(1, 2);
        x.weeks(1);
        Check.due("not one that is not SAFE, dead, taken", x.school(0, 1), 10 + 18);
        Check.due("then the next, both by the two", x.school(0, 2), 10 + 18 + 6);
        x.drop(1);
        Check.due("nor one that was dropped", x.school(0, 1), 18 + 10 + 6);
        Check.due("no more are open", x.school(0, 4), 18 + 10 + 6);
        Check.due("one is open again", x.school(0, 6), 18 + 10 + 6 + 18 + 10);
    }

    private static void schoolDropsAtOnce() {
        Check.of("0: drops it at once");
        LostCauses x = Check.office("line 1 2;coin 0;cause a 1 9 50 20;deed d 1 0 0;clerk k 1;");
        Check.due("in the same WEEK", x.school(0, 1), 10);
        Check.due("not again while it is dropped", x.school(0, 5), 10);
        Check.due("again when it is open", x.school(0, 6), 20);
        x.take(0, 0);
        x.act(0, 0);
        Check.due("what he has", x.school(0, 1), 18);
    }

    private static void schoolWaitsInAFifthWeek() {
        Check.of("(To drop in a fifth WEEK: he waits.)");
        LostCauses x = Check.office("line 1 2;coin 0;cause a 1 9 50 20;clerk k 1;");
        x.weeks(4);
        for (int s = 0; s < 3; s++) {
            Check.due("in WEEK 4, by " + s, x.school(s, 1), 0);
            Check.due("in WEEK 5, by " + s, x.school(s, 2), 10);
        }
    }

    private static void schoolOfTheNearest() {
        Check.of("1: does the least DEED of the NEAREST (by his zeal)");
        LostCauses x = Check.office(ONE + "clerk k 2;");
        int[] due = {7, 4, 29};
        for (int n = 1; n <= 3; n++) {
            Check.due("by zeal 2, WEEKS " + n, x.school(1, n), due[n - 1]);
        }
        LostCauses y = Check.office(ONE.replace("1 0 3", "2 0 3") + "clerk k 1;");
        Check.due("by zeal 1: f", y.school(1, 1), 6);
        Check.due("then no DEED", y.school(1, 2), 6 + 25);
        LostCauses z = Check.office(ONE.replace("1 0 3", "2 0 3") + "clerk k 2;");
        Check.due("by zeal 2: e first", z.school(1, 1), 7);
    }

    private static void schoolIfItCanBeDone() {
        Check.of("1: .. if it can be done, and drops if the NEAREST is no DEED");
        LostCauses x = Check.office(ONE.replace("coin 9", "coin 1") + "clerk k 2;");
        Check.due("COST above the coin: nothing", x.school(1, 50), 1);
        LostCauses y = Check.office(ONE + "clerk k 3;");
        y.take(0, 0);
        y.act(0, 1);
        Check.due("one was done in this WEEK: nothing", y.school(1, 1), 7);
        Check.due("the next WEEK", y.school(1, 2), 4);
    }

    private static void schoolOfNoDeed() {
        Check.of("1: .. drops if the NEAREST is no DEED");
        LostCauses x = Check.office("line 1 2;coin 0;cause a 1 9 50 20;clerk k 9;");
        Check.due("no DEEDS", x.school(1, 1), 10);
        LostCauses y = Check.office("line 1 2;coin 0;cause a 1 9 50 20;deed d 0 1 0;deed e 0 0 0;clerk k 9;");
        Check.due("none comes nearer", y.school(1, 1), 10);
        LostCauses z = Check.office("line 1 2;coin 0;cause a 1 9 50 20;deed d 8 0 0;clerk k 9;");
        Check.due("one would come to the line", z.school(1, 1), 10);
        LostCauses w = Check.office("line 1 2;coin 5;cause a 1 9 50 20;deed d 1 0 0;deed e 1 0 0;clerk k 1;");
        w.take(0, 0);
        w.act(0, 0);
        Check.due("no zeal", w.school(1, 1), 5 + 18);
    }

    private static void schoolOfTheFirstDeed() {
        Check.of("2: does the first DEED that can be done");
        LostCauses x = Check.office("line 1 2;coin 5;cause a 1 9 50 20;deed d 1 0 6;deed e 1 0 4;deed f 1 0 1;deed g 1 0 0;"
            + "clerk k 9;");
        int[] due = {1, 0, 0, 30};
        for (int n = 1; n <= 4; n++) {
            Check.due("WEEKS " + n, x.school(2, n), due[n - 1]);
        }
        LostCauses y = Check.office("line 1 2;coin 5;cause a 1 9 50 20;deed d 8 0 0;clerk k 9;");
        Check.due("a DISGRACE", y.school(2, 1), 0);
    }

    private static void schoolOfNoneThatCan() {
        Check.of("2: .. drops if none can");
        String[] offices = {"clerk k 9;", "deed d 1 0 1;clerk k 9;", "deed u 1 0 1;deed v 1 0 1;deed w 1 0 1;deed x 1 0 1;"
            + "deed y 1 0 1;deed z 1 0 1;clerk k 9;"};
        for (String office : offices) {
            LostCauses x = Check.office("line 1 2;coin 0;cause a 1 9 50 20;" + office);
            Check.due("none or too dear, in the same WEEK: " + office, x.school(2, 1), 10);
        }
        LostCauses y = Check.office("line 1 2;coin 0;cause a 1 9 50 20;deed d 0 0 0;deed e 0 0 0;clerk k 1;clerk l 9;");
        y.take(0, 0);
        y.act(0, 0);
        Check.due("no zeal", y.school(2, 1), 10);
        LostCauses z = Check.office("line 1 2;coin 0;cause a 1 9 50 20;deed d 0 0 0;deed e 0 0 0;clerk k 9;");
        z.take(0, 0);
        z.act(0, 1);
        Check.due("one was done in this WEEK", z.school(2, 1), 10);
        z.weeks(1);
        z.act(0, 0);
        z.weeks(1);
        Check.due("all were done", z.school(2, 1), 10);
    }

    private static void bestOfNoSuchN() {
        Check.of("28: NONE: no such n");
        LostCauses x = Check.office(ONE + "clerk k 2;");
        int[] none = {0, 51, -1, LEAST, MOST};
        for (int n : none) {
            Check.due("best(" + n + ")", x.best(n), -1);
        }
        Check.due("the least", x.best(1), 0);
        Check.due("the most", x.best(50) >= 0, true);
    }

    private static void bestOfLikeOnes() {
        Check.of("28: The SCHOOL with the most coin then (of like ones the first)");
        Check.due("all alike", new LostCauses().best(50), 0);
        LostCauses x = Check.office("line 1 2;coin 9;cause a 1 4 50 20;deed d 1 0 1;clerk k 1;");
        Check.due("0", x.school(0, 2), 9 + 20);
        Check.due("1", x.school(1, 2), 8 + 33);
        Check.due("2", x.school(2, 2), 8 + 33);
        Check.due("the first of two", x.best(2), 1);
        LostCauses y = Check.office("line 1 2;coin 9;cause a 1 4 50 20;deed d 0 0 0;clerk k 1;");
        Check.due("0", y.school(0, 2), 29);
        Check.due("1", y.school(1, 2), 29);
        Check.due("2", y.school(2, 2), 29);
        Check.due("the first of three", y.best(2), 0);
        LostCauses z = Check.office("line 1 2;coin 4;cause a 1 4 50 20;deed d 2 0 5;deed e 1 0 1;clerk k 1;");
        Check.due("the last alone", z.best(2), 2);
        LostCauses w = Check.office("line 1 2;coin 20;cause a 1 4 50 20;deed d 8 0 0;deed e 1 0 0;clerk k 1;");
        Check.due("0", w.school(0, 2), 40);
        Check.due("1", w.school(1, 2), 20 + 33);
        Check.due("2: a DISGRACE", w.school(2, 2), 0);
        Check.due("the second alone", w.best(2), 1);
    }

    private static int flags(LostCauses x, int c, int... bytes) {
        byte[] tape = new byte[bytes.length];
        for (int i = 0; i < bytes.length; i++) {
            tape[i] = (byte) bytes[i];
        }
        Check.tape(x, tape);
        int sets = x.flags(c);
        Check.due("bytes behind flags()", x.count(6), 0);
        return sets;
    }

    private static void flagsNotAsTold() {
        Check.of("29: by the tape (two bytes: FOR, AGAINST) .. NONE: not as told, no such one");
        LostCauses x = Check.office("cause a 32 32 9 9;cause b 32 32 9 9;");
        Check.due("two bytes", flags(x, 1, 32, 32), 1);
        Check.due("no bytes", flags(x, 1), -1);
        Check.due("one", flags(x, 1, 32), -1);
        Check.due("three", flags(x, 1, 32, 32, 32), -1);
        Check.due("twenty", flags(x, 1, new int[20]), -1);
        Check.due("all", flags(x, 1, new int[940]), -1);
        int[] none = {-1, 2, 6, LEAST, MOST};
        for (int c : none) {
            Check.due("flags(" + c + ")", flags(x, c, 32, 32), -1);
        }
        Check.due("of a new object", flags(new LostCauses(), 0, 0, 0), -1);
    }

    private static void flagsOfBytes() {
        Check.of("29: two bytes: FOR, AGAINST");
        LostCauses x = Check.office("cause a 99 99 9 9;cause b 0 1 9 9;deed u 20 20 0;deed v 20 20 0;deed w 20 20 0;"
            + "deed x 20 20 0;deed y 20 20 0;deed z 20 20 0;");
        int[] sets = {1, 6, 15, 20, 15, 6, 1};
        for (int i = 0; i < sets.length; i++) {
            Check.due("sets of " + i, flags(x, 0, 99 + 20 * i, 99 + 20 * i), sets[i]);
            Check.due("not FOR alone", flags(x, 0, 99 + 20 * i, 98 + 20 * i), 0);
            Check.due("not AGAINST alone", flags(x, 0, 98 + 20 * i, 99 + 20 * i), 0);
        }
        Check.due("the least", flags(x, 1, 0, 1), 1);
        Check.due("none", flags(x, 1, 0, 0), 0);
        Check.due("the most", flags(x, 1, 255, 255), 0);
    }

    private static void flagsOfWhatItWasAtFirst() {
        Check.of("29: make what a CAUSE was at first so");
        LostCauses x = Check.office("line 1 2;cause a 1 9 9 9;deed d 1 0 0;deed e 0 1 0;clerk k 9;");
        x.take(0, 0);
        x.act(0, 0);
        Check.due("as it is", flags(x, 0, 2, 9), 1);
        Check.due("by d", x.tried(), 1);
        Check.due("as it was", flags(x, 0, 1, 9), 1);
        Check.due("by none", x.tried(), 0);
        Check.due("d twice", flags(x, 0, 3, 9), 0);
    }

    private static void flagsOfAllDeeds() {
        Check.of("29: how many sets of DEEDS, of all told");
        LostCauses x = Check.office("line 1 2;cause a 1 9 9 9;deed u 0 0 0;deed v 0 0 0;deed w 0 0 0;deed x 0 0 0;"
            + "deed y 0 0 0;deed z 0 0 0;clerk k 9;");
        Check.due("all", flags(x, 0, 1, 9), 64);
        Check.due("none is in each", x.tried(), 0);
        x.take(0, 0);
        x.act(0, 5);
        Check.due("what was done, too", flags(x, 0, 1, 9), 64);
        Check.due("no DEEDS", flags(Check.office("cause a 1 9 9 9;"), 0, 1, 9), 1);
        LostCauses y = Check.office("line 1 2;cause a 9 9 9 9;deed d 20 0 20;");
        Check.due("whether it is SAFE or not", flags(y, 0, 29, 9), 1);
    }

    private static void triedOfAllThese() {
        Check.of("30: DEEDS that are in each of these sets, as bits");
        LostCauses x = Check.office("cause a 1 9 9 9;deed u 1 0 0;deed v 1 0 0;deed w 0 1 0;deed x 0 1 0;deed y 0 1 0;"
            + "deed z 0 3 0;");
        Check.due("z, or w, x and y; u or v", flags(x, 0, 2, 12), 4);
        Check.due("none in each", x.tried(), 0);
        Check.due("u and v; z and one of three", flags(x, 0, 3, 13), 3);
        Check.due("in each", x.tried(), 35);
        Check.due("all", flags(x, 0, 3, 15), 1);
        Check.due("in it", x.tried(), 63);
    }

    private static void triedByTheLatest() {
        Check.of("30: by the latest flags() that was 1 or more; NONE ahead of any");
        LostCauses x = Check.office("cause a 1 9 9 9;deed d 1 0 0;deed e 1 0 0;");
        Check.due("ahead of any", x.tried(), -1);
        flags(x, 0, 0, 0);
        Check.due("behind 0", x.tried(), -1);
        flags(x, 0, 0);
        flags(x, 1, 1, 9);
        Check.due("behind NONE", x.tried(), -1);
        Check.due("1", flags(x, 0, 3, 9), 1);
        Check.due("both", x.tried(), 3);
        flags(x, 0, 4, 9);
        flags(x, 0, 3);
        flags(x, -1, 1, 9);
        Check.due("they stay", x.tried(), 3);
        Check.due("2", flags(x, 0, 2, 9), 2);
        Check.due("none in both", x.tried(), 0);
        flags(x, 0, 3, 9);
        Check.tape(x, "cause a 1 9 9 9;");
        x.office();
        Check.due("with a new OFFICE", x.tried(), 3);
    }

    private static void drawnNotAsTold() {
        Check.of("34: n (1 to 50) .. NONE: not as told, no CLERKS");
        LostCauses x = Check.office(DRAWN);
        int[] none = {0, 51, -1, LEAST, MOST};
        for (int n : none) {
            Check.due("drawn(" + n + ",1)", x.drawn(n, 1), -1);
        }
        Check.due("nothing to undo", x.undo(), -1);
        Check.due("the most", x.drawn(50, 1), 50);
        Check.due("the least", x.drawn(1, 1), 1);
        Check.due("no CLERKS", Check.office("cause a 1 9 9 9;deed d 1 1 1;").drawn(1, 1), -1);
        Check.due("a new object", new LostCauses().drawn(1, 1), -1);
    }

    private static void drawnAsManyAsAreLeft() {
        Check.of("34: how many went by");
        LostCauses x = Check.office(DRAWN);
        for (int i = 0; i < 3; i++) {
            x.weeks(50);
        }
        x.weeks(47);
        Check.due("three are left", x.drawn(50, 9), 3);
        Check.due("WEEK", x.now(0), 200);
        Check.due("none is left", x.drawn(1, 9), 0);
        Check.due("what was above 0 is undone", x.undo(), 4);
        Check.due("WEEK", x.now(0), 197);
    }

    private static void drawnOfNoCauses() {
        Check.of("(No draw of what there is none of: nothing then.)");
        LostCauses x = Check.office("deed d 1 1 1;clerk k 1;");
        Check.due("no CAUSES", x.drawn(50, 3), 50);
        Check.due("no DEEDS were done", x.now(4), 0);
        LostCauses y = Check.office("clerk k 1;");
        Check.due("no CAUSES, no DEEDS", y.drawn(50, 3), 50);
        Check.due("WEEK", y.now(0), 50);
    }

    private static void drawnOfNoDeeds() {
        Check.of("(No draw of what there is none of: nothing then.)");
        String office = "line 1 2;coin 60;cause a 1 4 50 20;cause b 1 9 30 20;cause c 2 9 20 20;clerk k 3;clerk l 9;";
        int dropped = 0;
        for (int seed = -5; seed < 5; seed++) {
            LostCauses x = Check.office(office);
            LostCauses y = Check.office(office);
            x.drawn(20, seed);
            int s = seed;
            for (int i = 0; i < 40; i++) {
                s = s * 1103515245 + 12345;
                int choice = (s >>> 8) % 3;
                if (choice == 0) {
                    s = s * 1103515245 + 12345;
                    y.take(i % 2, (s >>> 8) % 3);
                } else if (choice == 2) {
                    y.drop(i % 2);
                }
                if (i % 2 == 1) {
                    y.weeks(1);
                }
            }
            dropped += y.now(6);
            Check.same("by seed " + seed, Check.all(x), Check.all(y));
        }
        Check.due("some were dropped", dropped > 10, true);
    }

    private static void drawnWraps() {
        Check.of("x becomes x * 1103515245 + 12345 (an int, wrapping), the draw is (x >>> 8) % n");
        int[] seeds = {0, 1, -1, LEAST, MOST, LEAST + 1, MOST - 1, 1103515245, -12345};
        for (int seed : seeds) {
            LostCauses x = Check.office(DRAWN);
            LostCauses y = Check.office(DRAWN);
            x.drawn(15, seed);
            long s = seed;
            for (int i = 0; i < 30; i++) {
                s = next(s);
                long choice = s / 256 % 3;
                if (choice < 2) {
                    s = next(s);
                }
                if (choice == 0) {
                    y.take(i % 2, (int) (s / 256 % 2));
                } else if (choice == 1) {
                    y.act(i % 2, (int) (s / 256 % 3));
                } else {
                    y.drop(i % 2);
                }
                if (i % 2 == 1) {
                    y.weeks(1);
                }
            }
            Check.same("by seed " + seed, Check.all(x), Check.all(y));
        }
    }

    /** The next x as a number from 0 to 2 to the 32, less 1. */
    private static long next(long x) {
        return Math.floorMod(x * 1103515245L + 12345L, 4294967296L);
    }

    private static void riskNotAsTold() {
        Check.of("35: Of n (1 to 40) seeds .. NONE: not as told, no CLERKS");
        LostCauses x = Check.office(DRAWN);
        int[] none = {0, 41, -1, LEAST, MOST};
        for (int n : none) {
            Check.due("risk(" + n + ",1)", x.risk(n, 1), -1);
        }
        Check.due("the most", x.risk(40, 1) >= 0, true);
        Check.due("the least", x.risk(1, 1) >= 0, true);
        Check.due("no CLERKS", Check.office("cause a 1 9 9 9;deed d 1 1 1;").risk(1, 1), -1);
        Check.due("a new object", new LostCauses().risk(40, 1), -1);
        Check.due("all", Check.office("line 1 2;cause a 0 9 9 20;deed d 0 0 0;clerk k 1;").risk(40, 1), 0);
    }

    /** How many of these seeds bring a DISGRACE, by drawn() and undo(). */
    private static int byDraws(LostCauses x, int n, int seed) {
        int found = 0;
        int before = x.now(2);
        for (int i = 0; i < n; i++) {
            int went = x.drawn(20, seed + i);
            found += x.now(2) > before ? 1 : 0;
            if (went > 0) {
                x.undo();
            }
        }
        return found;
    }

    private static void riskOfSeeds() {
        Check.of("35: Of n (1 to 40) seeds x, x and 1, .. (an int, wrapping)");
        LostCauses x = Check.office(DRAWN.replace("1 0 1", "9 0 1"));
        int[] seeds = {0, -20, MOST, MOST - 20, LEAST, 77777};
        int all = 0;
        for (int seed : seeds) {
            int due = byDraws(x, 40, seed);
            Check.due("risk(40," + seed + ")", x.risk(40, seed), due);
            Check.due("one by one", x.risk(1, seed) + x.risk(39, seed + 1), due);
            all += due;
        }
        Check.due("some, not all", all > 0 && all < 240, true);
    }

    private static void riskOfNewDisgraces() {
        Check.of("35: by how many there is a new DISGRACE");
        LostCauses x = Check.office("line 1 2;coin 60;cause a 1 4 50 20;cause b 0 99 30 20;deed e 9 0 1;clerk k 3;");
        x.take(0, 0);
        x.act(0, 0);
        Check.due("not yet: by each, at the end of this WEEK", x.risk(40, 5) > 0, true);
        x.weeks(1);
        Check.due("one was", x.now(2), 1);
        Check.due("no new one can be", x.risk(40, 5), 0);
    }

    private static void riskOfTwentyWeeks() {
        Check.of("35: in 20 WEEKS DRAWN from now on");
        LostCauses x = Check.office("line 1 2;coin 99;cause a 1 4 50 20;deed d 9 0 5;clerk k 1;");
        x.weeks(3);
        int last = 0;
        int behind = 0;
        for (int seed = 0; seed < 100; seed++) {
            x.drawn(21, seed);
            int week = x.now(5);
            x.undo();
            last += week == 22 ? 1 : 0;
            behind += week == 23 ? 1 : 0;
            Check.due("risk of seed " + seed, x.risk(1, seed), week >= 0 && week <= 22 ? 1 : 0);
        }
        Check.due("in the twentieth and in the next: both come", last > 0 && behind > 0, true);
    }

    private static void riskWhenFewWeeksAreLeft() {
        Check.of("35: in 20 WEEKS (200: all are over)");
        LostCauses x = Check.office("line 1 2;coin 99;cause a 1 4 50 20;deed d 9 0 5;clerk k 1;");
        x.take(0, 0);
        for (int i = 0; i < 39; i++) {
            x.weeks(5);
        }
        x.weeks(3);
        Check.due("two are left", x.risk(40, 1), byDraws(x, 40, 1));
        x.weeks(2);
        Check.due("none is left", x.risk(40, 1), 0);
        Check.due("WEEK", x.now(0), 200);
    }

    private static void riskChangesNothing() {
        Check.of("35: (all stays as it is)");
        LostCauses x = Check.office(DRAWN);
        x.drawn(9, 2);
        String before = Check.all(x);
        x.risk(40, 3);
        Check.same("all", Check.all(x), before);
        Check.due("what can be undone", x.undo(), 0);
    }
}
