/** Promises 36 and 37: a LEDGER judged LINE by LINE. */
public final class LedgerTest {
    private static final String GOOD = "max takes ann;max does sue;week 1;max drops;";

    public static void main(String[] args) {
        judged();
        lived();
        wrongLines();
        disgraces();
        otherLives();
        faults();
        tooMany();
        tooLong();
        Check.finish();
    }

    private static void booked(LostCauses x, int... due) {
        for (int what = 0; what < due.length; what++) {
            Check.due("booked(" + what + ")", x.booked(what), due[what]);
        }
    }

    private static void judged() {
        LostCauses x = Check.office(DeskTest.OFFICE);
        booked(x, -1, -1, -1, -1);
        Check.due("judged", Check.ledger(x, GOOD, 0), -1);
        booked(x, 0, 4, 84, 0);
        Check.due("all stays: WEEK", x.now(0), 0);
        Check.due("all stays: coin", x.now(1), 10);
        Check.due("all stays: STATE", x.cause(0, 4), 0);
        Check.due("nothing to undo", x.undo(), -1);
        Check.due("booked(4)", x.booked(4), -1);
        Check.due("booked(-1)", x.booked(-1), -1);
        Check.due("an empty one", Check.ledger(x, "", 1), -1);
        booked(x, 0, 0, 10, 0);
        Check.due("nothing to undo behind an empty one", x.undo(), -1);
    }

    private static void lived() {
        LostCauses x = Check.office(DeskTest.OFFICE);
        Check.due("lived", Check.ledger(x, GOOD, 1), -1);
        booked(x, 0, 4, 84, 0);
        Check.due("tape", x.count(6), 0);
        Check.due("coin", x.now(1), 84);
        Check.due("WEEK", x.now(0), 1);
        Check.due("undone as one", x.undo(), 0);
        Check.due("coin", x.now(1), 10);
        Check.due("WEEK", x.now(0), 0);
        booked(x, 0, 4, 84, 0);
        Check.due("lived as far as not WRONG", Check.ledger(x, "max takes ann;max takes ann;max drops;", 1), 1);
        booked(x, 1, 1, 10, 0);
        Check.due("taken", x.cause(0, 4), 1);
        Check.due("undone", x.undo(), 0);
        Check.due("open", x.cause(0, 4), 0);
        Check.due("the first is WRONG", Check.ledger(x, "max drops;max takes ann;", 1), 0);
        booked(x, 21, 0, 10, 0);
        Check.due("nothing lived, nothing to undo", x.undo(), -1);
        x.office();
        booked(x, 21, 0, 10, 0);
    }

    private static void wrongs(String text, int lives, int line, int why) {
        LostCauses x = Check.office(DeskTest.OFFICE);
        Check.due("ledger of " + text, Check.ledger(x, text, lives), line);
        Check.due("why of " + text, x.booked(0), why);
        Check.due("LINES ahead in " + text, x.booked(1), line);
    }

    private static void wrongLines() {
        wrongs("max takes ann;max takes col;", 0, 1, 1);
        wrongs("max takes ann;eva takes ann;", 1, 1, 2);
        wrongs("max takes bob;", 0, 0, 3);
        wrongs("eva does cry;", 1, 0, 11);
        wrongs("max takes ann;max does nap;max does nap;", 0, 2, 12);
        wrongs("eva takes ann;eva does nap;eva does cry;", 0, 2, 13);
        wrongs("max takes ann;max does nap;max does cry;", 1, 2, 14);
        wrongs("max takes ann;max does sue;week 2;max does cry;week 1;eva takes col;", 0, 5, 2);
        wrongs("max drops;", 0, 0, 21);
        wrongs("max takes ann;week 4;max drops;", 0, 2, 22);
        wrongs("week 50;week 50;week 50;week 50;week 1;", 0, 4, 31);
        wrongs("week 50;week 50;week 50;week 49;week 2;", 1, 4, 31);
        LostCauses x = Check.office("coin 1;cause a 0 9 9 9;deed d 0 0 2;clerk k 1;");
        Check.due("COST", Check.ledger(x, "k takes a;k does d;", 0), 1);
        booked(x, 15, 1, 1, 0);
        LostCauses y = Check.office("cause a 0 9 9 20;clerk k 1;clerk l 1;");
        Check.due("all WEEKS are over", Check.ledger(y, "k takes a;week 50;week 50;week 50;week 45;k drops;week 5;k takes a;", 1), 7);
        booked(y, 4, 7, 50, 0);
        Check.due("a WEEK that is WRONG is not lived", Check.ledger(y, "week 1;", 1), 0);
        Check.due("WEEK", y.now(0), 200);
    }

    private static void disgraces() {
        LostCauses x = Check.office("line 1 2;coin 9;cause a 1 3 40 5;cause b 1 3 40 5;deed d 9 0 0;clerk k 2;clerk l 2;");
        Check.due("one DISGRACE", Check.ledger(x, "k takes a;k does d;week 1;", 1), -1);
        booked(x, 0, 3, 0, 1);
        Check.due("another", Check.ledger(x, "k takes b;k does d;week 2;", 0), -1);
        booked(x, 0, 3, 0, 1);
        Check.due("none new", Check.ledger(x, "k takes b;k drops;", 0), -1);
        booked(x, 0, 2, 20, 0);
        Check.due("DISGRACES", x.now(2), 1);
    }

    private static void otherLives() {
        LostCauses x = Check.office(DeskTest.OFFICE);
        Check.due("a FAULT", Check.ledger(x, "max;", 0), -5);
        Check.due("fault", x.fault(), 1);
        Check.tape(x, GOOD);
        Check.due("ledger(2)", x.ledger(2), -1000);
        Check.due("ledger(-1)", x.ledger(-1), -1000);
        Check.due("the tape stays", x.count(6), GOOD.length());
        Check.due("the fault stays", x.fault(), 1);
        booked(x, -1, -1, -1, -1);
        Check.due("ledger(0)", x.ledger(0), -1);
        Check.due("fault", x.fault(), 0);
        Check.due("a FAULT leaves what is booked", Check.ledger(x, "max takes", 1), -11);
        booked(x, 0, 4, 84, 0);
    }

    private static void faulty(String text, int place, int kind) {
        LostCauses x = Check.office(DeskTest.OFFICE);
        String shown = text.length() > 60 ? text.substring(0, 60) + ".." : text;
        Check.due("ledger of '" + shown + "'", Check.ledger(x, text, 1), -2 - place);
        Check.due("fault of '" + shown + "'", x.fault(), kind);
        Check.due("tape behind '" + shown + "'", x.count(6), 0);
        Check.due("nothing is lived of '" + shown + "'", x.undo(), -1);
    }

    private static void faults() {
        faulty(";", 0, 1);
        faulty("takes ann;", 0, 1);
        faulty("5;", 0, 1);
        faulty("max", 3, 1);
        faulty("max drops", 9, 1);
        faulty("max drops ann;", 10, 1);
        faulty("max ann;", 4, 1);
        faulty("max week 1;", 4, 1);
        faulty("max takes;", 9, 1);
        faulty("max takes drops;", 10, 1);
        faulty("max takes 1;", 10, 1);
        faulty("week;", 4, 1);
        faulty("week max;", 5, 1);
        faulty("week 0;", 5, 2);
        faulty("week 51;", 5, 2);
        faulty("tim drops;", 0, 3);
        faulty("ann drops;", 0, 3);
        faulty("cry drops;", 0, 3);
        faulty("max takes tim;", 10, 3);
        faulty("max takes cry;", 10, 3);
        faulty("max takes eva;", 10, 3);
        faulty("max does ann;", 9, 3);
        faulty("max takes ann;max does sue;week 1;max (", 38, 1);
    }

    private static void tooMany() {
        String lines = "week 1;".repeat(40);
        LostCauses x = Check.office(DeskTest.OFFICE);
        Check.due("forty LINES", Check.ledger(x, lines + " ", 0), -1);
        booked(x, 0, 40, 10, 0);
        faulty(lines + "week 1;", 280, 4);
        faulty(lines + " max 1;", 281, 4);
        faulty(lines + "tim drops;", 280, 3);
        faulty(lines + "ann drops;", 280, 3);
        faulty(lines + ";", 280, 1);
        faulty(lines + "drops;", 280, 1);
    }

    private static void tooLong() {
        LostCauses x = Check.office(DeskTest.OFFICE);
        Check.due("400 bytes", Check.ledger(x, "week 1;" + " ".repeat(393), 0), -1);
        faulty("week 1;" + " ".repeat(394), 400, 1);
        faulty(" ".repeat(394) + "week 51;", 399, 2);
        faulty(" ".repeat(395) + "week 51;", 400, 1);
        faulty(" ".repeat(399) + "tim drops;", 399, 3);
        faulty(" ".repeat(400) + "tim drops;", 400, 1);
    }
}
