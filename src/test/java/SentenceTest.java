/** Promises 38 to 41: what may be said of which CAUSE, and images. */
public final class SentenceTest {
    public static void main(String[] args) {
        ones();
        states();
        measures();
        joined();
        saidOfNone();
        faults();
        limits();
        tooLong();
        images();
        imagesOfOffices();
        Check.finish();
    }

    /** Says a text of the CAUSES: how many ONES, and of which CAUSES, as bits. */
    private static void says(LostCauses x, String text, int ones, int bits) {
        Check.due("sentence of '" + text + "'", Check.sentence(x, text), ones);
        Check.due("fault of '" + text + "'", x.fault(), 0);
        Check.due("tape behind '" + text + "'", x.count(6), 0);
        said(x, text, bits);
    }

    private static void said(LostCauses x, String text, int bits) {
        Check.due("how many of '" + text + "'", x.said(-1), Integer.bitCount(bits));
        int k = 0;
        for (int c = 0; c < x.count(0); c++) {
            if ((bits & 1 << c) != 0) {
                Check.due("said(" + k + ") of '" + text + "'", x.said(k), c);
                k++;
            }
        }
        Check.due("said beyond of '" + text + "'", x.said(k), -1);
        Check.due("said(-2) of '" + text + "'", x.said(-2), -1);
    }

    private static void ones() {
        LostCauses x = Check.office(DeskTest.OFFICE);
        says(x, "open", 1, 7);
        says(x, "not open", 2, 0);
        says(x, "not not open", 3, 7);
        says(x, "(open)", 2, 7);
        says(x, "((not(open)))", 5, 0);
        says(x, "had sue", 1, 0);
        says(x, "open and near<300", 2, 5);
    }

    private static void states() {
        LostCauses x = Check.office("line 1 2;cause a 1 3 9 9;cause b 1 3 9 9;cause c 1 3 9 9;cause d 1 3 9 2;cause e 1 3 9 9;"
            + "deed f 9 0 0;deed g 0 0 0;clerk k 1;clerk l 1;clerk m 1;");
        x.take(0, 1);
        x.take(1, 2);
        x.take(2, 4);
        x.act(0, 0);
        x.act(2, 1);
        x.weeks(2);
        x.drop(2);
        says(x, "open", 1, 1);
        says(x, "won", 1, 2);
        says(x, "taken", 1, 4);
        says(x, "dead", 1, 8);
        says(x, "dropped", 1, 16);
        says(x, "had f", 1, 2);
        says(x, "had g", 1, 16);
        says(x, "had f or had g", 2, 18);
        says(x, "open or taken or dropped", 3, 21);
        x.weeks(5);
        said(x, "open or taken or dropped, later", 21);
        x.undo();
        said(x, "open or taken or dropped, undone", 21);
    }

    private static void measures() {
        LostCauses x = Check.office(DeskTest.OFFICE);
        says(x, "near < 250", 1, 4);
        says(x, "near = 250", 1, 1);
        says(x, "near > 250", 1, 2);
        says(x, "near > 999", 1, 2);
        says(x, "purse > 20", 1, 3);
        says(x, "purse = 020", 1, 4);
        says(x, "belief < 3", 1, 4);
        says(x, "belief > 1", 1, 3);
        says(x, "number = 0", 1, 1);
        says(x, "number > 0", 1, 6);
        says(x, "number < 0", 1, 0);
    }

    private static void joined() {
        LostCauses x = Check.office("cause a 1 9 1 1;cause b 1 9 1 1;cause c 1 9 1 1;cause d 1 9 1 1;cause e 1 9 1 1;");
        says(x, "number=1 or number=2 and number=3", 3, 2);
        says(x, "(number=1 or number=2) and number=2", 4, 4);
        says(x, "number=1 and number=2 or number=3", 3, 8);
        says(x, "not number=1 and number<3", 3, 5);
        says(x, "not(number=1 or number<1)and number<4", 5, 12);
        says(x, "number=0 or number=1 or number=2 and open and number>1 or number=4", 6, 23);
        says(x, "not number=0 or number=0", 3, 31);
    }

    private static void saidOfNone() {
        LostCauses x = Check.office("cause a 1 9 1 1;");
        Check.due("no SENTENCE", x.said(-1), -1);
        Check.due("no SENTENCE", x.said(0), -1);
        says(x, "open", 1, 1);
        Check.due("a FAULT", Check.sentence(x, "open or"), -8);
        said(x, "what stays", 1);
        x.office();
        Check.due("no SENTENCE in a new OFFICE", x.said(-1), -1);
        says(x, "open", 1, 0);
    }

    private static void faulty(String text, int place, int kind) {
        LostCauses x = Check.office(DeskTest.OFFICE);
        String shown = text.length() > 60 ? text.substring(0, 60) + ".." : text;
        Check.due("sentence of '" + shown + "'", Check.sentence(x, text), -1 - place);
        Check.due("fault of '" + shown + "'", x.fault(), kind);
        Check.due("tape behind '" + shown + "'", x.count(6), 0);
        Check.due("none said by '" + shown + "'", x.said(-1), -1);
    }

    private static void faults() {
        faulty("", 0, 1);
        faulty("  ", 2, 1);
        faulty("ann", 0, 1);
        faulty("week", 0, 1);
        faulty("5", 0, 1);
        faulty("open;", 4, 1);
        faulty("open.", 4, 1);
        faulty("open open", 5, 1);
        faulty("open or", 7, 1);
        faulty("open and or", 9, 1);
        faulty("or open", 0, 1);
        faulty("not", 3, 1);
        faulty("not and", 4, 1);
        faulty("()", 1, 1);
        faulty("(open", 5, 1);
        faulty("(open or", 8, 1);
        faulty("(open;", 5, 1);
        faulty("open)", 4, 1);
        faulty("had", 3, 1);
        faulty("had open", 4, 1);
        faulty("had 1", 4, 1);
        faulty("had tim", 4, 3);
        faulty("had ann", 4, 3);
        faulty("had max", 4, 3);
        faulty("near", 4, 1);
        faulty("near 5", 5, 1);
        faulty("near <", 6, 1);
        faulty("near < > 5", 7, 1);
        faulty("near = open", 7, 1);
        faulty("near < 1000", 7, 1);
        faulty("Open", 0, 1);
    }

    private static void limits() {
        LostCauses x = Check.office("cause a 1 9 1 1;");
        says(x, "not not not not not not not open", 8, 0);
        says(x, "(((((((open)))))))", 8, 1);
        says(x, "open" + " or won".repeat(19), 20, 1);
        says(x, "won" + " and won or open".repeat(9) + " or dead", 20, 1);
        faulty("not not not not not not not not open", 32, 4);
        faulty("((((((((open))))))))", 8, 4);
        faulty("((((((((;", 8, 1);
        faulty("(((((((not open)))))))", 11, 4);
        faulty("(((((((open or not", 18, 1);
        faulty("(((((((open or not (", 19, 4);
        faulty("open" + " or won".repeat(20), 141, 4);
        faulty("open" + " or won".repeat(19) + " or )", 141, 1);
        faulty("open" + " or won".repeat(18) + " or not won", 138, 4);
    }

    private static void tooLong() {
        LostCauses x = Check.office("cause a 1 9 1 1;");
        says(x, "open" + " ".repeat(196), 1, 1);
        faulty("open" + " ".repeat(197), 200, 1);
        faulty(" ".repeat(199) + "open", 200, 1);
        faulty(" ".repeat(199) + "opens", 199, 1);
        faulty(" ".repeat(200) + "opens", 200, 1);
        faulty(" ".repeat(195) + "had tim or", 199, 3);
    }

    private static void images() {
        LostCauses x = Check.office(DeskTest.OFFICE);
        Check.due("nothing is kept", x.restore(0), false);
        Check.due("image(2)", x.image(2), false);
        Check.due("image(-1)", x.image(-1), false);
        x.take(0, 0);
        Check.due("image(0)", x.image(0), true);
        Check.due("an image leaves what can be undone", x.undo(), 0);
        Check.due("nothing is kept in 1", x.restore(1), false);
        Check.due("restore(2)", x.restore(2), false);
        Check.due("restore(-1)", x.restore(-1), false);
        x.weeks(3);
        Check.due("restore(0)", x.restore(0), true);
        Check.due("nothing can be undone", x.undo(), -1);
        Check.due("WEEK", x.now(0), 0);
        Check.due("STATE", x.cause(0, 4), 1);
        Check.due("a failed restore leaves what can be undone", x.weeks(1), 1);
        x.restore(1);
        Check.due("undo", x.undo(), 0);
        x.act(0, 1);
        Check.due("restore again", x.restore(0), true);
        Check.due("FOR", x.cause(0, 0), 1);
    }

    private static void imagesOfOffices() {
        LostCauses x = Check.office(DeskTest.OFFICE);
        Check.sentence(x, "had sue");
        x.take(0, 0);
        x.act(0, 1);
        x.image(1);
        x.match();
        Check.tape(x, "line 1 3;cause sue 1 3 9 9;deed ann 1 0 0;");
        x.office();
        x.image(0);
        x.feed(1, 2, 3, 4, 5);
        Check.due("restore(1)", x.restore(1), true);
        Check.due("the tape stays", x.count(6), 20);
        x.end(0);
        Check.due("CAUSES", x.count(0), 3);
        Check.due("M", x.count(5), 5);
        Check.due("rumours", x.count(3), 1);
        said(x, "had sue", 1);
        Check.due("DEEDS", x.near(0, 4), 714);
        Check.due("NAMES", Check.ledger(x, "max drops;", 1), -1);
        Check.due("coin", x.now(1), 84);
        x.restore(0);
        Check.due("what is booked stays", x.booked(2), 84);
        Check.due("no SENTENCE", x.said(-1), -1);
        Check.due("CAUSES", x.count(0), 1);
        Check.due("CLERKS", x.count(2), 0);
        Check.due("near", x.near(0, 1), 1200);
        Check.due("NAMES", Check.sentence(x, "had ann"), 1);
    }
}
