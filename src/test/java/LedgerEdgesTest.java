/** Edges that the document names of a LEDGER (promises 36 and 37): a test for each sentence. */
public final class LedgerEdgesTest {
    private static final int LEAST = Integer.MIN_VALUE;
    private static final int MOST = Integer.MAX_VALUE;
    private static final String OFFICE = DeskTest.OFFICE;
    private static final String[] RESERVED = {"line", "coin", "cause", "rumour", "deed", "clerk", "takes", "does",
        "drops", "week", "or", "and", "not", "open", "taken", "dropped", "won", "dead", "had", "near", "purse",
        "belief", "number"};

    public static void main(String[] args) {
        anEmptyLedger();
        mostBytes();
        mostLines();
        weekNumbers();
        namesToldElsewhere();
        namesNotTold();
        whatCantCome();
        theEnd();
        theLeastOfOneToken();
        theFirstAlongTheText();
        anotherLives();
        judgedLeavesAll();
        livedAsFar();
        aFaultLeavesAll();
        bookedAheadOfAny();
        bookedOfAnotherWhat();
        whysOfTaking();
        whysOfDoing();
        whysOfDropping();
        fewerWeeksAreLeft();
        linesAhead();
        coinThen();
        disgracesInIt();
        bookedStays();
        undoneIfALineWasLived();
        namesOfTheOfficeNow();
        Check.finish();
    }

    private static void good(String text) {
        LostCauses x = Check.office(OFFICE);
        Check.due("ledger of '" + text + "'", Check.ledger(x, text, 0) >= -1, true);
        Check.due("fault of '" + text + "'", x.fault(), 0);
    }

    private static void faulty(String text, int place, int kind) {
        String shown = text.length() > 70 ? ".." + text.substring(text.length() - 70) : text;
        for (int lives = 0; lives < 2; lives++) {
            LostCauses x = Check.office(OFFICE);
            Check.due("ledger(" + lives + ") of '" + shown + "'", Check.ledger(x, text, lives), -2 - place);
            Check.due("fault of '" + shown + "'", x.fault(), kind);
            Check.due("bytes behind '" + shown + "'", x.count(6), 0);
            Check.due("nothing is booked", x.booked(0), -1);
            Check.due("nothing to undo", x.undo(), -1);
        }
    }

    private static void booked(LostCauses x, int... due) {
        for (int what = 0; what < due.length; what++) {
            Check.due("booked(" + what + ")", x.booked(what), due[what]);
        }
    }

    private static void anEmptyLedger() {
        Check.of("A LEDGER is .. { LINE ; }: with no LINE too");
        String[] texts = {"", " ", "\n\n"};
        for (String text : texts) {
            for (int lives = 0; lives < 2; lives++) {
                LostCauses x = Check.office(OFFICE);
                x.take(0, 0);
                Check.due("none is WRONG", Check.ledger(x, text, lives), -1);
                booked(x, 0, 0, 10, 0);
                Check.due("no LINE was lived", x.undo(), 0);
            }
        }
        faulty(";", 0, 1);
        LostCauses y = new LostCauses();
        Check.due("of a new object", y.ledger(1), -1);
        booked(y, 0, 0, 50, 0);
    }

    private static void mostBytes() {
        Check.of("A LEDGER is a text of at most 400 bytes; the most bytes told, .. TOKENS that begin ahead of it are read whole");
        good(" ".repeat(400));
        good(" ".repeat(393) + "week 1;");
        faulty(" ".repeat(401), 400, 1);
        faulty(" ".repeat(940), 400, 1);
        faulty("week 1;" + " ".repeat(394), 400, 1);
        faulty(" ".repeat(394) + "week 1;", 400, 1);
        faulty(" ".repeat(394) + "week 50;", 400, 1);
        faulty(" ".repeat(394) + "week 51;", 399, 2);
        faulty(" ".repeat(394) + "week 1000;", 399, 1);
        faulty(" ".repeat(395) + "week 51;", 400, 1);
        faulty(" ".repeat(399) + "max drops;", 400, 1);
        faulty(" ".repeat(399) + "maxi drops;", 399, 3);
        faulty(" ".repeat(399) + "maximums drops;", 399, 1);
        faulty(" ".repeat(400) + "max drops;", 400, 1);
        faulty("week 0;" + " ".repeat(400), 5, 2);
        faulty("max drops" + "s".repeat(391), 4, 1);
        faulty("max drops" + "s".repeat(392), 4, 1);
    }

    private static void mostLines() {
        Check.of("{ LINE ; }, 40 at most: 4 .. a 41st LINE of a LEDGER (at the LINE's first WORD)");
        String lines = "week 1;".repeat(40);
        LostCauses x = Check.office(OFFICE);
        Check.due("forty", Check.ledger(x, lines, 1), -1);
        booked(x, 0, 40, 10, 0);
        Check.due("WEEK", x.now(0), 40);
        good(lines + " \n");
        faulty(lines + "week 1;", 280, 4);
        faulty(lines + "\n max", 282, 4);
        faulty(lines + "week", 280, 4);
        faulty(lines + "week 0;", 280, 4);
        faulty(lines + "max takes tim;", 280, 4);
        faulty("max drops;".repeat(39) + "week 1;max drops;", 397, 4);
    }

    private static void theLeastOfOneToken() {
        Check.of("FAULTS, .. of one TOKEN the least");
        String lines = "week 1;".repeat(40);
        faulty(lines + "tim", 280, 3);
        faulty(lines + "ann takes ann;", 280, 3);
        faulty(lines + ";", 280, 1);
        faulty(lines + "takes", 280, 1);
        faulty(lines + "5", 280, 1);
        faulty(lines + "maximums", 280, 1);
    }

    private static void weekNumbers() {
        Check.of("'week' N (1 to 50)");
        good("week 1;");
        good("week 50;");
        good("week 050;");
        faulty("week 0;", 5, 2);
        faulty("week 51;", 5, 2);
        faulty("week 999;", 5, 2);
        faulty("week 1000;", 5, 1);
    }

    private static void namesToldElsewhere() {
        Check.of("3 a NAME .. of another sort (at it)");
        faulty("ann drops;", 0, 3);
        faulty("cry drops;", 0, 3);
        faulty("max takes cry;", 10, 3);
        faulty("max takes max;", 10, 3);
        faulty("max does ann;", 9, 3);
        faulty("max does eva;", 9, 3);
    }

    private static void namesNotTold() {
        Check.of("3 a NAME .. not told (at it)");
        faulty("tim drops;", 0, 3);
        faulty("ma drops;", 0, 3);
        faulty("maxi drops;", 0, 3);
        faulty("max takes an;", 10, 3);
        faulty("max does cryy;", 9, 3);
        faulty("weeks 1;", 0, 3);
    }

    private static void whatCantCome() {
        Check.of("1 no TOKEN, or one that can't come (at it)");
        for (String word : RESERVED) {
            if (!word.equals("week")) {
                faulty(word + " drops;", 0, 1);
            }
            if (!word.equals("takes") && !word.equals("does") && !word.equals("drops")) {
                faulty("max " + word + " ann;", 4, 1);
            }
            faulty("max takes " + word + ";", 10, 1);
            faulty("max does " + word + ";", 9, 1);
        }
        faulty("max drops ann;", 10, 1);
        faulty("max drops,", 9, 1);
        faulty("max ann;", 4, 1);
        faulty("max 5;", 4, 1);
        faulty("max;", 3, 1);
        faulty("max takes;", 9, 1);
        faulty("max takes 5;", 10, 1);
        faulty("max takes ann ann;", 14, 1);
        faulty("max takes ann,", 13, 1);
        faulty("week;", 4, 1);
        faulty("week max;", 5, 1);
        faulty("week 1 1;", 7, 1);
        faulty("week1;", 0, 1);
        faulty("week 1;;", 7, 1);
        faulty("5;", 0, 1);
        faulty("(", 0, 1);
    }

    private static void theEnd() {
        Check.of("the end: how many bytes there are");
        faulty("max", 3, 1);
        faulty("max  ", 5, 1);
        faulty("max takes", 9, 1);
        faulty("max takes ann", 13, 1);
        faulty("max takes ann \n", 15, 1);
        faulty("week", 4, 1);
        faulty("week 5", 6, 1);
        faulty("max drops", 9, 1);
    }

    private static void theFirstAlongTheText() {
        Check.of("FAULTS, the first along the text");
        faulty("max takes tim;week 0;A", 10, 3);
        faulty("week 0;tim drops;A", 5, 2);
        faulty("week 1 A;tim drops;week 0;", 7, 1);
    }

    private static void anotherLives() {
        Check.of("36: -1000: another lives (the tape stays)");
        int[] others = {-1, 2, 3, LEAST, MOST, -1000};
        LostCauses x = Check.office(OFFICE);
        Check.ledger(x, "week 0;", 0);
        Check.tape(x, "max takes ann;week 1;");
        String before = Check.all(x);
        for (int lives : others) {
            Check.due("ledger(" + lives + ")", x.ledger(lives), -1000);
        }
        Check.same("all", Check.all(x), before);
        Check.due("bytes", x.count(6), 21);
        Check.due("it is a LEDGER still", x.ledger(1), -1);
        Check.due("WEEK", x.now(0), 1);
    }

    private static void judgedLeavesAll() {
        Check.of("36: it is judged, all staying as it is (lives 0)");
        LostCauses x = Check.office(OFFICE);
        Check.sentence(x, "taken");
        x.take(1, 2);
        String before = Check.all(x).replaceAll("booked -1.*booked -1", "");
        Check.due("good", Check.ledger(x, "max takes ann;max does sue;week 3;max drops;eva drops;week 50;", 0), -1);
        booked(x, 0, 6, 84, 0);
        Check.same("all", Check.all(x).replaceAll("booked 0.*booked 0", ""), before);
        Check.due("WRONG", Check.ledger(x, "week 9;max drops;", 0), 1);
        Check.same("all", Check.all(x).replaceAll("booked 21.*booked 0", ""), before);
        Check.due("what can be undone", x.undo(), 0);
    }

    private static void livedAsFar() {
        Check.of("36: or lived as far as it is not WRONG (1): the LINE that is WRONG (from 0); NONE: none");
        LostCauses x = Check.office(OFFICE);
        Check.due("none is", Check.ledger(x, "max takes ann;max does sue;", 1), -1);
        Check.due("taken", x.cause(0, 5), 0);
        Check.due("done", x.cause(0, 6), 2);
        Check.due("the third", Check.ledger(x, "week 2;eva takes col;week 1;", 1), 1);
        Check.due("WEEK", x.now(0), 2);
        Check.due("the first", Check.ledger(x, "eva takes ann;week 1;", 1), 0);
        Check.due("WEEK", x.now(0), 2);
        Check.due("the last of forty", Check.ledger(x, "week 1;".repeat(39) + "eva drops;", 1), 39);
        Check.due("WEEK", x.now(0), 41);
    }

    private static void aFaultLeavesAll() {
        Check.of("36: -2 less the place of a FAULT (and nothing is lived)");
        LostCauses x = Check.office(OFFICE);
        Check.ledger(x, "max drops;", 0);
        String before = Check.all(x).replace("fault 0", "");
        Check.due("a FAULT behind good LINES", Check.ledger(x, "max takes ann;week 1;week 51;", 1), -28);
        Check.same("all", Check.all(x).replace("fault 2", ""), before);
        Check.due("at the first byte", Check.ledger(x, "A", 0), -2);
        booked(x, 21, 0, 10, 0);
        Check.due("nothing to undo", x.undo(), -1);
    }

    private static void bookedAheadOfAny() {
        Check.of("37: NONE: .. ahead of any");
        LostCauses x = Check.office(OFFICE);
        booked(x, -1, -1, -1, -1);
        Check.ledger(x, "week", 1);
        booked(x, -1, -1, -1, -1);
        x.ledger(2);
        booked(x, -1, -1, -1, -1);
        x.ledger(0);
        booked(x, 0, 0, 10, 0);
    }

    private static void bookedOfAnotherWhat() {
        Check.of("37: NONE: another what");
        LostCauses x = Check.office(OFFICE);
        x.ledger(0);
        int[] others = {-1, 4, 5, LEAST, MOST};
        for (int what : others) {
            Check.due("booked(" + what + ")", x.booked(what), -1);
        }
    }

    private static void wrong(String text, int line, int why) {
        for (int lives = 0; lives < 2; lives++) {
            LostCauses x = Check.office(OFFICE);
            Check.due("ledger of " + text, Check.ledger(x, text, lives), line);
            Check.due("why of " + text, x.booked(0), why);
            Check.due("LINES ahead in " + text, x.booked(1), line);
        }
    }

    private static void whysOfTaking() {
        Check.of("37: 0 why it was WRONG (0: it was not; as for taking");
        wrong("max takes ann;max takes ann;", 1, 1);
        wrong("max takes ann;eva takes ann;", 1, 2);
        wrong("max takes bob;", 0, 3);
        LostCauses x = Check.office("cause a 0 9 9 20;clerk k 1;");
        Check.due("all WEEKS are over", Check.ledger(x, "k takes a;week 50;week 50;week 50;week 45;k drops;week 5;k takes a;",
            0), 7);
        booked(x, 4, 7, 50, 0);
    }

    private static void whysOfDoing() {
        Check.of("37: 10 more as for doing");
        wrong("max does cry;", 0, 11);
        wrong("max takes ann;max does nap;max does nap;", 2, 12);
        wrong("eva takes ann;eva does nap;eva does cry;", 2, 13);
        wrong("max takes ann;max does nap;max does cry;", 2, 14);
        LostCauses x = Check.office("coin 1;cause a 0 9 9 9;deed d 0 0 2;clerk k 1;");
        Check.due("COST", Check.ledger(x, "k takes a;k does d;", 0), 1);
        booked(x, 15, 1, 1, 0);
    }

    private static void whysOfDropping() {
        Check.of("37: 20 more as for dropping");
        wrong("max drops;", 0, 21);
        wrong("week 4;max drops;", 1, 21);
        wrong("max takes ann;week 4;max drops;", 2, 22);
    }

    private static void fewerWeeksAreLeft() {
        Check.of("37: 31 fewer WEEKS are left");
        String weeks = "week 50;week 50;week 50;";
        wrong(weeks + "week 49;week 2;", 4, 31);
        wrong(weeks + "week 50;week 1;", 4, 31);
        LostCauses x = Check.office(OFFICE);
        Check.due("as many as are left", Check.ledger(x, weeks + "week 49;week 1;", 1), -1);
        booked(x, 0, 5, 10, 0);
        Check.due("none is left", Check.ledger(x, "week 1;", 1), 0);
        booked(x, 31, 0, 10, 0);
        x.undo();
        Check.ledger(x, weeks + "week 49;", 1);
        Check.due("one is left", Check.ledger(x, "week 2;", 1), 0);
        Check.due("and is not lived", x.now(0), 199);
    }

    private static void linesAhead() {
        Check.of("37: 1 how many LINES are ahead of the one that is WRONG (all, if none is)");
        LostCauses x = Check.office(OFFICE);
        Check.ledger(x, "week 1;week 1;max drops;week 1;", 0);
        Check.due("two", x.booked(1), 2);
        Check.ledger(x, "max drops;week 1;", 0);
        Check.due("none", x.booked(1), 0);
        Check.ledger(x, "week 1;week 1;week 1;", 0);
        Check.due("all", x.booked(1), 3);
    }

    private static void coinThen() {
        Check.of("37: 2 the coin then");
        LostCauses x = Check.office(OFFICE);
        Check.ledger(x, "max takes ann;max does sue;week 1;max drops;max drops;week 1;", 0);
        booked(x, 21, 4, 84, 0);
        Check.due("the coin now", x.now(1), 10);
        Check.ledger(x, "max takes ann;max does sue;max drops;eva takes ann;", 1);
        booked(x, 2, 3, 84, 0);
        Check.due("the coin now", x.now(1), 84);
    }

    private static void disgracesInIt() {
        Check.of("37: 3 DISGRACES in it");
        LostCauses x = Check.office("line 1 2;coin 9;cause a 1 3 40 5;cause b 1 3 40 5;cause c 1 3 40 5;deed d 9 0 0;"
            + "clerk k 2;clerk l 2;");
        Check.ledger(x, "k takes a;k does d;week 1;", 1);
        booked(x, 0, 3, 0, 1);
        Check.ledger(x, "k takes b;l takes c;k does d;l does d;week 1;k drops;", 0);
        booked(x, 21, 5, 0, 2);
        Check.ledger(x, "k takes b;k does d;", 0);
        booked(x, 0, 2, 0, 0);
        Check.due("all", x.now(2), 1);
    }

    private static void bookedStays() {
        Check.of("37: Of the latest ledger() that had no FAULT (and was not -1000)");
        LostCauses x = Check.office(OFFICE);
        Check.ledger(x, "week 4;max drops;", 1);
        booked(x, 21, 1, 10, 0);
        Check.ledger(x, "week 51;", 1);
        x.ledger(-1);
        x.undo();
        x.weeks(50);
        x.image(0);
        x.restore(0);
        Check.tape(x, "coin 7;");
        x.office();
        booked(x, 21, 1, 10, 0);
        x.ledger(0);
        booked(x, 0, 0, 7, 0);
    }

    private static void undoneIfALineWasLived() {
        Check.of("15: a LEDGER of which a LINE was lived is undone");
        LostCauses x = Check.office(OFFICE);
        Check.ledger(x, "week 1;", 0);
        Check.ledger(x, "max drops;week 1;", 1);
        Check.due("none was", x.undo(), -1);
        Check.ledger(x, "week 1;max drops;week 1;", 1);
        Check.ledger(x, "week 2;week 3;", 1);
        Check.due("two were", x.undo(), 1);
        Check.due("WEEK", x.now(0), 1);
        Check.due("one was", x.undo(), 0);
        Check.due("WEEK", x.now(0), 0);
        for (int i = 0; i < 9; i++) {
            Check.ledger(x, "week 1;week 1;", 1);
        }
        Check.due("eight are kept", x.undo(), 7);
        Check.due("WEEK", x.now(0), 16);
    }

    private static void namesOfTheOfficeNow() {
        Check.of("CLERK ( 'takes' CAUSE | 'does' DEED | 'drops' ): of the OFFICE now");
        LostCauses x = Check.office("cause c 0 9 9 9;cause d 0 9 9 9;deed e 0 0 0;deed f 0 0 0;clerk k 1;clerk l 2;");
        Check.due("the last ones", Check.ledger(x, "l takes d;l does f;k takes c;k does e;", 1), -1);
        Check.due("l has d", x.clerk(1, 2), 1);
        Check.due("k has c", x.clerk(0, 2), 0);
        Check.due("f for d", x.cause(1, 6), 2);
        Check.tape(x, "cause k 0 9 9 9;clerk c 1;");
        x.office();
        Check.due("c takes k", Check.ledger(x, "c takes k;", 1), -1);
        Check.due("l is no more", Check.ledger(x, "l drops;", 1), -2);
        Check.due("fault", x.fault(), 3);
        Check.due("k is a CAUSE now", Check.ledger(x, "k drops;", 1), -2);
        Check.due("fault", x.fault(), 3);
    }
}
