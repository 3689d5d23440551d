/** Promises 27 to 30, 34 and 35: SCHOOLS, FLAGS, WEEKS by draws. */
public final class RunsTest {
    public static void main(String[] args) {
        schools();
        schoolsInFifthWeeks();
        schoolsFromWhatIsSo();
        best();
        flags();
        draws();
        risks();
        Check.finish();
    }

    private static void schools() {
        LostCauses x = Check.office(DeskTest.OFFICE);
        Check.due("school 0", x.school(0, 3), 32);
        Check.due("school 1", x.school(1, 3), 84);
        Check.due("school 2", x.school(2, 3), 48);
        Check.due("one WEEK of 1", x.school(1, 1), 6);
        Check.due("nothing is done", x.now(0) + x.now(6) + x.cause(0, 4), 0);
        Check.due("nothing to undo", x.undo(), -1);
        int[] got = {x.school(-1, 1), x.school(3, 1), x.school(0, 0), x.school(0, 51), x.school(1, -1)};
        for (int i = 0; i < got.length; i++) {
            Check.due("no such ones " + i, got[i], -1);
        }
        Check.due("no CLERKS", Check.office("coin 7;cause a 1 9 9 9;").school(0, 50), 7);
    }

    private static void schoolsInFifthWeeks() {
        LostCauses x = Check.office("line 1 2;coin 0;cause a 1 9 50 20;clerk k 1;");
        x.weeks(4);
        Check.due("taken in a fifth WEEK", x.school(0, 1), 0);
        Check.due("dropped behind it", x.school(0, 2), 10);
        Check.due("dropped, open again at the end of WEEK 9", x.school(0, 6), 10);
        Check.due("taken and dropped in WEEK 10", x.school(0, 7), 20);
        for (int i = 0; i < 39; i++) {
            x.weeks(5);
        }
        Check.due("WEEK", x.now(0), 199);
        Check.due("its last WEEK", x.school(2, 50), 0);
        x.weeks(1);
        Check.due("all are over", x.school(0, 50), 0);
    }

    private static void schoolsFromWhatIsSo() {
        LostCauses x = Check.office("line 1 2;coin 20;cause a 1 4 50 20;cause b 1 4 30 20;deed d 1 0 5;deed e 9 0 5;clerk k 2;");
        x.take(0, 1);
        Check.due("0 drops what he has", x.school(0, 1), 20 + 12);
        Check.due("1 does d", x.school(1, 1), 15);
        Check.due("1 drops then: 2 by 6", x.school(1, 2), 15 + 19);
        Check.due("2 does d", x.school(2, 1), 15);
        Check.due("2 does e: a DISGRACE", x.school(2, 2), 0);
        x.act(0, 0);
        Check.due("0 after a DEED", x.school(0, 1), 15 + 19);
        Check.due("2 can do none in this WEEK: drops", x.school(2, 1), 15 + 19);
        x.weeks(1);
        x.act(0, 1);
        Check.due("1 drops what is not SAFE: no DEED is its NEAREST", x.school(1, 1), 10);
        Check.due("2 as well: no zeal", x.school(2, 1), 10);
        LostCauses y = Check.office("line 1 2;coin 4;cause a 1 4 50 20;deed d 1 0 5;clerk k 1;");
        Check.due("1 waits for what can't be done", y.school(1, 3), 4);
        Check.due("2 drops", y.school(2, 3), 24);
    }

    private static void best() {
        LostCauses x = Check.office(DeskTest.OFFICE);
        Check.due("best(3)", x.best(3), 1);
        Check.due("best(1)", x.best(1), 0);
        Check.due("best(0)", x.best(0), -1);
        Check.due("best(51)", x.best(51), -1);
        Check.due("the first of like ones", Check.office("").best(50), 0);
        LostCauses y = Check.office("line 1 2;coin 4;cause a 1 4 50 20;deed d 1 0 5;deed e 0 1 0;clerk k 1;");
        Check.due("0", y.school(0, 4), 24);
        Check.due("1", y.school(1, 4), 4);
        Check.due("2", y.school(2, 4), 4 + 50 * 333 / 1000);
        Check.due("best", y.best(4), 0);
        String office = "line 1 2;coin 9;cause a 1 4 50 20;deed d 1 0 1;clerk k 1;";
        LostCauses z = Check.office(office);
        Check.due("1 and 2 alike", z.school(1, 2) - z.school(2, 2), 0);
        Check.due("the first of them", z.best(2), 1);
        LostCauses v = Check.office("line 1 2;coin 4;cause a 1 4 50 20;deed d 2 0 5;deed e 1 0 1;clerk k 1;");
        Check.due("0", v.school(0, 2), 24);
        Check.due("1 waits for d", v.school(1, 2), 4);
        Check.due("2 does e", v.school(2, 2), 36);
        Check.due("best", v.best(2), 2);
    }

    /** A DISGRACE may come in the twentieth WEEK, and not in the next one. */
    private static void risksOfTwentyWeeks() {
        LostCauses x = Check.office("line 1 2;coin 99;cause a 1 4 50 20;deed d 9 0 5;clerk k 1;");
        int last = 0;
        int behind = 0;
        for (int seed = 0; seed < 400; seed++) {
            x.drawn(21, seed);
            int week = x.now(5);
            x.undo();
            last += week == 19 ? 1 : 0;
            behind += week == 20 ? 1 : 0;
            Check.due("risk of seed " + seed, x.risk(1, seed), week >= 0 && week < 20 ? 1 : 0);
        }
        Check.due("both come", last > 0 && behind > 0, true);
    }

    private static int flags(LostCauses x, int c, int... bytes) {
        byte[] tape = new byte[bytes.length];
        for (int i = 0; i < bytes.length; i++) {
            tape[i] = (byte) bytes[i];
        }
        Check.tape(x, tape);
        int sets = x.flags(c);
        Check.due("bytes behind flags()", x.count(6), 0);
        return sets;
    }

    private static void flags() {
        LostCauses x = Check.office("line 1 2;cause a 99 99 9 9;cause b 1 9 9 9;deed d 20 20 0;deed e 20 20 0;deed f 20 20 0;"
            + "deed g 20 20 0;deed h 0 0 0;deed i 2 0 0;clerk k 9;");
        Check.due("ahead of any", x.tried(), -1);
        Check.due("nothing, or what changes nothing", flags(x, 1, 1, 9), 2);
        Check.due("in both", x.tried(), 0);
        Check.due("all but one: in 8 ways", flags(x, 0, 161, 159), 8);
        Check.due("in each", x.tried(), 32);
        Check.due("bytes above 127", flags(x, 0, 181, 179), 2);
        Check.due("in each", x.tried(), 47);
        Check.due("none", flags(x, 0, 98, 99), 0);
        Check.due("the latest that was 1 or more", x.tried(), 47);
        Check.due("one byte", flags(x, 0, 99), -1);
        Check.due("three bytes", flags(x, 0, 99, 99, 99), -1);
        Check.due("no bytes", flags(x, 0), -1);
        Check.due("no such CAUSE", flags(x, 2, 1, 9), -1);
        Check.due("no such CAUSE", flags(x, -1, 1, 9), -1);
        x.take(0, 1);
        x.act(0, 5);
        Check.due("as it was at first", flags(x, 1, 3, 9), 2);
        Check.due("tried", x.tried(), 32);
        Check.tape(x, "");
        x.office();
        Check.due("it stays with a new OFFICE", x.tried(), 32);
    }

    private static void draws() {
        // The draws are worked out here by themselves, and each is lived by the calls of the face.
        String office = "line 1 2;coin 60;cause a 1 4 50 20;cause b 1 9 30 20;cause c 2 9 20 20;cause d 0 9 20 20;"
            + "deed e 1 0 1;deed f 0 1 1;deed g 2 3 2;clerk k 3;clerk l 9;";
        LostCauses x = Check.office(office);
        LostCauses y = Check.office(office);
        for (int run = 0; run < 20; run++) {
            int seed = run * 7919 - 50000;
            Check.due("drawn", x.drawn(7, seed), 7);
            liveDraws(y, seed);
            for (int what = 0; what < 7; what++) {
                Check.due("now(" + what + ") behind draws", x.now(what), y.now(what));
                Check.due("cause 0 behind draws", x.cause(0, what), y.cause(0, what));
                Check.due("cause 3 behind draws", x.cause(3, what), y.cause(3, what));
                Check.due("clerk 1 behind draws", x.clerk(1, what), y.clerk(1, what));
            }
        }
        Check.due("WEEK", x.now(0), 140);
        Check.due("some were dropped", x.now(6) > 3, true);
        Check.due("drawn", x.drawn(50, 1), 50);
        Check.due("as many as are left", x.drawn(50, 1), 10);
        Check.due("none is left", x.drawn(1, 1), 0);
        Check.due("what was 0 is not undone", x.undo(), 7);
        Check.due("WEEK", x.now(0), 190);
        int[] got = {x.drawn(0, 1), x.drawn(51, 1), x.drawn(-5, 1), Check.office("cause a 1 9 9 9;").drawn(1, 1)};
        for (int i = 0; i < got.length; i++) {
            Check.due("not as told " + i, got[i], -1);
        }
        Check.due("without CAUSES and DEEDS", Check.office("clerk k 1;").drawn(50, 3), 50);
    }

    private static void liveDraws(LostCauses y, int seed) {
        int s = seed;
        for (int week = 0; week < 7; week++) {
            for (int k = 0; k < 2; k++) {
                s = s * 1103515245 + 12345;
                int choice = (s >>> 8) % 3;
                if (choice < 2) {
                    s = s * 1103515245 + 12345;
                }
                int draw = s >>> 8;
                int why = choice == 0 ? y.take(k, draw % 4) : choice == 1 ? y.act(k, draw % 3) : y.drop(k);
                Check.due("a draw that is none", why == -1, false);
            }
            y.weeks(1);
        }
    }

    private static void risks() {
        String office = "line 1 2;coin 99;cause a 1 4 50 20;cause b 1 4 30 20;deed d 9 0 5;deed e 0 9 5;clerk k 2;clerk l 9;";
        LostCauses x = Check.office(office);
        x.drawn(3, 17);
        int due = 0;
        int before = x.now(2);
        for (int seed = Integer.MAX_VALUE - 9, i = 0; i < 20; i++) {
            x.drawn(20, seed + i);
            due += x.now(2) > before ? 1 : 0;
            x.undo();
        }
        Check.due("risk, the seeds wrapping", x.risk(20, Integer.MAX_VALUE - 9), due);
        Check.due("some, not all", due > 0 && due < 20, true);
        Check.due("risk of one seed", x.risk(1, Integer.MAX_VALUE - 9) + x.risk(19, Integer.MAX_VALUE - 8), due);
        Check.due("nothing is done", x.now(0), 3);
        risksOfTwentyWeeks();
        int[] got = {x.risk(0, 1), x.risk(41, 1), x.risk(-1, 1), Check.office("cause a 1 9 9 9;").risk(1, 1)};
        for (int i = 0; i < got.length; i++) {
            Check.due("not as told " + i, got[i], -1);
        }
        Check.due("no risk", Check.office("cause a 0 9 9 9;clerk k 1;").risk(40, 5), 0);
        Check.due("nothing new to undo", x.undo(), 0);
    }
}
