/** Edges that the document names of a SENTENCE and of images (promises 38 to 41): a test for each sentence. */
public final class SayingEdgesTest {
    private static final int LEAST = Integer.MIN_VALUE;
    private static final int MOST = Integer.MAX_VALUE;
    private static final String OFFICE = DeskTest.OFFICE;
    private static final String[] RESERVED = {"line", "coin", "cause", "rumour", "deed", "clerk", "takes", "does",
        "drops", "week", "or", "and", "not", "open", "taken", "dropped", "won", "dead", "had", "near", "purse",
        "belief", "number"};

    public static void main(String[] args) {
        anEmptySentence();
        mostBytes();
        mostOnes();
        mostWithin();
        bothAtOnce();
        numbersOfSigns();
        namesOfDeeds();
        whatCantCome();
        theEnd();
        theFirstAlongTheText();
        howManyOnes();
        andAheadOfOr();
        brackets();
        measures();
        theWidestSentence();
        faultLeavesTheSentence();
        saidOfNoSentence();
        saidOfNoneSuch();
        saidOfWhatIsSoNow();
        imageOfNoSuchOne();
        restoreOfNoSuchOne();
        restoreOfNothing();
        nothingCanBeUndone();
        whatIsKept();
        whatStays();
        imagesAreTwo();
        Check.finish();
    }

    private static LostCauses six() {
        StringBuilder text = new StringBuilder();
        for (int c = 0; c < 6; c++) {
            text.append("cause c" + (char) ('a' + c) + " 0 9 " + (c + 1) + " " + (c + 1) + ";");
        }
        return Check.office(text + "deed d 0 0 0;deed e 0 0 0;clerk k 1;");
    }

    private static void says(String text, int ones, int bits) {
        LostCauses x = six();
        Check.due("sentence of '" + text + "'", Check.sentence(x, text), ones);
        Check.due("fault of '" + text + "'", x.fault(), 0);
        said(x, text, bits);
    }

    private static void said(LostCauses x, String text, int bits) {
        Check.due("how many of '" + text + "'", x.said(-1), Integer.bitCount(bits));
        int k = 0;
        for (int c = 0; c < 6; c++) {
            if ((bits & 1 << c) != 0) {
                Check.due("said(" + k + ") of '" + text + "'", x.said(k), c);
                k++;
            }
        }
        Check.due("no more of '" + text + "'", x.said(k), -1);
    }

    private static void faulty(String text, int place, int kind) {
        LostCauses x = six();
        String shown = text.length() > 70 ? ".." + text.substring(text.length() - 70) : text;
        Check.due("sentence of '" + shown + "'", Check.sentence(x, text), -1 - place);
        Check.due("fault of '" + shown + "'", x.fault(), kind);
        Check.due("bytes behind '" + shown + "'", x.count(6), 0);
        Check.due("no SENTENCE", x.said(-1), -1);
    }

    private static void anEmptySentence() {
        Check.of("A SENTENCE is .. COND: ALL { 'or' ALL }: at least one ONE");
        faulty("", 0, 1);
        faulty(" \n ", 3, 1);
        faulty("()", 1, 1);
    }

    private static void mostBytes() {
        Check.of("A SENTENCE is a text of at most 200 bytes; TOKENS that begin ahead of it are read whole");
        says("open" + " ".repeat(196), 1, 63);
        says(" ".repeat(196) + "open", 1, 63);
        faulty("open" + " ".repeat(197), 200, 1);
        faulty(" ".repeat(197) + "open", 200, 1);
        faulty(" ".repeat(199) + "open", 200, 1);
        faulty(" ".repeat(199) + "opened", 199, 1);
        faulty(" ".repeat(200) + "opened", 200, 1);
        faulty(" ".repeat(940), 200, 1);
        faulty(" ".repeat(193) + "near < 999", 200, 1);
        faulty(" ".repeat(192) + "near < 999", 200, 1);
        faulty(" ".repeat(192) + "near < 1000", 199, 1);
        faulty(" ".repeat(195) + "had fun", 199, 3);
        faulty(" ".repeat(196) + "had fun", 200, 1);
        faulty("or" + " ".repeat(300), 0, 1);
    }

    private static void mostOnes() {
        Check.of("20 ONES: 4 .. a 21st ONE (at its first TOKEN)");
        says("open" + " or won".repeat(19), 20, 63);
        says("not open" + " and not won".repeat(9), 20, 0);
        says("won or ".repeat(18) + "not won", 20, 63);
        says("won or ".repeat(18) + "(open)", 20, 63);
        faulty("open" + " or won".repeat(20), 141, 4);
        faulty("open" + " or won".repeat(19) + " and had", 142, 4);
        faulty("open" + " or won".repeat(19) + " or (", 141, 4);
        faulty("open" + " or won".repeat(19) + " or not", 141, 4);
        faulty("open" + " or won".repeat(18) + " or (won)", 135, 4);
        faulty("open" + " or won".repeat(18) + " or not won", 138, 4);
        faulty("open" + " or won".repeat(19) + " or 5", 141, 1);
        faulty("open" + " or won".repeat(19) + " or", 140, 1);
        faulty("open" + " or won".repeat(19) + " won", 138, 1);
    }

    private static void mostWithin() {
        Check.of("8 within one another: 4 .. a ninth within (at its first TOKEN)");
        says("not ".repeat(7) + "open", 8, 0);
        says("(".repeat(7) + "open" + ")".repeat(7), 8, 63);
        says("(not ".repeat(3) + "(open" + ")".repeat(4), 8, 0);
        says("(((((((open or won or taken))))))) and not not not not not not not open", 18, 0);
        faulty("not ".repeat(8) + "open", 32, 4);
        faulty("not ".repeat(8) + "not", 32, 4);
        faulty("(".repeat(8) + "open", 8, 4);
        faulty("(".repeat(9), 8, 4);
        faulty("(".repeat(7) + "not open", 11, 4);
        faulty("(".repeat(7) + "won or not open", 18, 4);
        faulty("(".repeat(7) + "won and (open", 16, 4);
        faulty("open and " + "not ".repeat(8) + "had", 41, 4);
        Check.of("a ninth within: of one TOKEN the least");
        faulty("(".repeat(8) + ")", 8, 1);
        faulty("(".repeat(8), 8, 1);
        faulty("not ".repeat(8) + "or", 32, 1);
    }

    private static void bothAtOnce() {
        Check.of("20 ONES, 8 within one another: each by itself");
        says("(((((((open)))))))or(((((((won)))))))or not not not open", 20, 63);
        faulty("(((((((open)))))))or(((((((won)))))))or not not not not open", 56, 4);
    }

    private static void numbersOfSigns() {
        Check.of("( 'near' | 'purse' | 'belief' | 'number' ) SIGN NUMBER. SIGN: < = >");
        String[] names = {"near", "purse", "belief", "number"};
        for (String name : names) {
            int place = name.length();
            says(name + "<000", 1, 0);
            says(name + ">999", 1, 0);
            says(name + " < 999", 1, 63);
            faulty(name, place, 1);
            faulty(name + "5", 0, 1);
            faulty(name + " 5", place + 1, 1);
            faulty(name + "<", place + 1, 1);
            faulty(name + "<=5", place + 1, 1);
            faulty(name + ">=5", place + 1, 1);
            faulty(name + "!5", place, 1);
            faulty(name + "(5)", place, 1);
            faulty(name + "<1000", place + 1, 1);
            faulty(name + "<open", place + 1, 1);
            faulty(name + "<-1", place + 1, 1);
            faulty(name + "<5 5", place + 3, 1);
        }
    }

    private static void namesOfDeeds() {
        Check.of("'had' DEED; 3 a NAME .. not told, or of another sort (at it)");
        says("had d", 1, 0);
        faulty("had f", 4, 3);
        faulty("had dd", 4, 3);
        faulty("had ca", 4, 3);
        faulty("had k", 4, 3);
        for (String word : RESERVED) {
            faulty("had " + word, 4, 1);
        }
        faulty("had 5", 4, 1);
        faulty("had (d)", 4, 1);
        faulty("had d e", 6, 1);
    }

    private static void whatCantCome() {
        Check.of("1 no TOKEN, or one that can't come (at it)");
        String[] ones = {"not", "open", "taken", "dropped", "won", "dead", "had", "near", "purse", "belief", "number"};
        for (String word : RESERVED) {
            boolean begins = false;
            for (String one : ones) {
                begins |= one.equals(word);
            }
            if (!begins) {
                faulty(word, 0, 1);
                faulty("open or " + word, 8, 1);
            }
            if (!word.equals("or") && !word.equals("and")) {
                faulty("open " + word, 5, 1);
            }
        }
        String[] others = {"d", "ca", "5", ";", "<", "=", ">", ")", ".", "Open", "open1", "opened", "openopen"};
        for (String other : others) {
            faulty(other, 0, 1);
            faulty("(" + other, 1, 1);
            faulty("not " + other, 4, 1);
            faulty("open and " + other, 9, 1);
        }
        faulty("open;", 4, 1);
        faulty("open.", 4, 1);
        faulty("open)", 4, 1);
        faulty("(open))", 6, 1);
        faulty("(open open)", 6, 1);
        faulty("open or or open", 8, 1);
        faulty("open and not", 12, 1);
    }

    private static void theEnd() {
        Check.of("the end: how many bytes there are");
        String[] texts = {"not", "(", "(open", "(open or", "open or", "open and", "had", "near", "near<", "open or  \n",
            "((open)"};
        for (String text : texts) {
            faulty(text, text.length(), 1);
        }
    }

    private static void theFirstAlongTheText() {
        Check.of("FAULTS, the first along the text");
        faulty("had f and 5", 4, 3);
        faulty("open 5 and had f", 5, 1);
        faulty("near<1000 and had f", 5, 1);
        faulty("had f" + " or open".repeat(21), 4, 3);
    }

    private static void howManyOnes() {
        Check.of("38: how many ONES (each not, bracket and other one)");
        says("open", 1, 63);
        says("not open", 2, 0);
        says("(open)", 2, 63);
        says("not (open)", 3, 0);
        says("not not open", 3, 63);
        says("((open))", 3, 63);
        says("(open or won)", 3, 63);
        says("had d", 1, 0);
        says("number<3", 1, 7);
        says("open and won or not dead", 4, 63);
    }

    private static void andAheadOfOr() {
        Check.of("COND: ALL { 'or' ALL }. ALL: ONE { 'and' ONE }");
        says("number=1 or number=2 and number=3", 3, 2);
        says("number=3 and number=2 or number=1", 3, 2);
        says("number=0 or number=1 or number=2 or number=5", 4, 39);
        says("number>0 and number<5 and number>2", 3, 24);
        says("number=0 or number>1 and number<4 or number=5", 4, 45);
        says("number<4 and number>0 or number>4 and open", 4, 46);
        says("not number=1 or number=1", 3, 63);
        says("not number=1 and number<3", 3, 5);
        says("number<3 and not number=1", 3, 5);
    }

    private static void brackets() {
        Check.of("( COND )");
        says("(number=1 or number=2) and number>1", 4, 4);
        says("number>1 and (number=1 or number=2)", 4, 4);
        says("number>1 and (number<4)", 3, 12);
        says("number=0 or number>1 and (number<4)", 4, 13);
        says("number=0 or (number>1) and (number<4) or (number=5)", 7, 45);
        says("number<2 and not (number=0 or number=3)", 5, 2);
        says("not (number=0 and open) and (won or not (number=4 or number=5))", 10, 14);
        says("(number<3 or (number=5 and (won or open)))", 7, 39);
        says("open and (won or (number=2 and (open or dead)))", 8, 4);
    }

    private static void measures() {
        Check.of("near: NEARNESS; its number");
        LostCauses x = Check.office("line 1 2;cause a 0 9 99 20;cause b 1 9 1 1;cause c 9 9 50 10;cause d 99 1 20 19;");
        String[] texts = {"near<1", "near<200", "near=200", "near>199", "near>200", "near>999", "near=1", "purse=99", "purse>98",
            "purse<2", "belief=20", "belief>19", "belief<2", "number=3", "number>2", "number<1"};
        int[] due = {1, 1, 2, 14, 12, 12, 0, 1, 1, 2, 1, 1, 2, 8, 8, 1};
        for (int i = 0; i < texts.length; i++) {
            Check.due("sentence of " + texts[i], Check.sentence(x, texts[i]), 1);
            said(x, texts[i], due[i]);
        }
    }

    private static void theWidestSentence() {
        Check.of("20 ONES, 8 within one another (all left open at once)");
        says("won or open and (won or open and (won or open and (won or open and (won or open and"
            + "(won or open and(won)))))) or number=3", 20, 8);
        says("open and (open and (open and (open and (open and (open and (open and number<5))))))", 14, 31);
    }

    private static void faultLeavesTheSentence() {
        Check.of("38: -1 less the place of a FAULT: it stays");
        LostCauses x = six();
        Check.due("a FAULT ahead of any", Check.sentence(x, "open or"), -8);
        Check.due("none yet", x.said(-1), -1);
        Check.sentence(x, "number>3");
        Check.due("a FAULT at the end", Check.sentence(x, "number<2 or number=5 or"), -24);
        said(x, "number>3", 48);
        Check.due("a FAULT at once", Check.sentence(x, ""), -1);
        said(x, "number>3", 48);
        Check.due("the bytes are none", x.count(6), 0);
        Check.sentence(x, "number=0");
        said(x, "another", 1);
    }

    private static void saidOfNoSentence() {
        Check.of("39: NONE: there is no SENTENCE");
        LostCauses x = six();
        int[] all = {-1, 0, 1, -2};
        for (int k : all) {
            Check.due("said(" + k + ")", x.said(k), -1);
            Check.due("said(" + k + ") of a new object", new LostCauses().said(k), -1);
        }
        Check.sentence(x, "open");
        x.office();
        Check.due("in a new OFFICE", x.said(-1), -1);
        Check.sentence(x, "open");
        Check.due("no CAUSES: of none", x.said(-1), 0);
        Check.due("the first", x.said(0), -1);
    }

    private static void saidOfNoneSuch() {
        Check.of("39: NONE: .. none such");
        LostCauses x = six();
        Check.sentence(x, "number>3");
        Check.due("how many", x.said(-1), 2);
        Check.due("first", x.said(0), 4);
        Check.due("second", x.said(1), 5);
        int[] none = {2, 3, 5, 6, -2, LEAST, MOST};
        for (int k : none) {
            Check.due("said(" + k + ")", x.said(k), -1);
        }
        Check.sentence(x, "won");
        Check.due("of none", x.said(-1), 0);
        Check.due("the first of none", x.said(0), -1);
    }

    private static void saidOfWhatIsSoNow() {
        Check.of("39: CAUSES of which it may be said (as it is now)");
        LostCauses x = six();
        Check.sentence(x, "taken or had e or dead");
        said(x, "nothing yet", 0);
        x.take(0, 5);
        said(x, "taken", 32);
        x.act(0, 1);
        x.weeks(1);
        x.drop(0);
        said(x, "had e; dead", 33);
        x.undo();
        x.undo();
        x.undo();
        said(x, "taken", 32);
    }

    private static void imageOfNoSuchOne() {
        Check.of("40: in place k (0, 1): true; false: no such one");
        LostCauses x = six();
        int[] none = {-1, 2, LEAST, MOST};
        for (int k : none) {
            Check.due("image(" + k + ")", x.image(k), false);
        }
        Check.due("nothing is kept in 0", x.restore(0), false);
        Check.due("nothing is kept in 1", x.restore(1), false);
        Check.due("image(0)", x.image(0), true);
        Check.due("image(1)", x.image(1), true);
    }

    private static void restoreOfNoSuchOne() {
        Check.of("41: false: no such one");
        LostCauses x = six();
        x.image(0);
        x.image(1);
        x.take(0, 0);
        String before = Check.all(x);
        int[] none = {-1, 2, LEAST, MOST};
        for (int k : none) {
            Check.due("restore(" + k + ")", x.restore(k), false);
        }
        Check.same("all", Check.all(x), before);
        Check.due("what can be undone", x.undo(), 0);
    }

    private static void restoreOfNothing() {
        Check.of("41: false: .. nothing is kept there");
        for (int k = 0; k < 2; k++) {
            LostCauses x = six();
            x.image(1 - k);
            x.take(0, 0);
            String before = Check.all(x);
            Check.due("restore(" + k + ")", x.restore(k), false);
            Check.same("all", Check.all(x), before);
            Check.due("what can be undone", x.undo(), 0);
            Check.due("the other", x.restore(1 - k), true);
        }
    }

    private static void nothingCanBeUndone() {
        Check.of("41: nothing can be undone");
        LostCauses x = six();
        x.take(0, 0);
        x.weeks(1);
        x.image(0);
        Check.due("an image leaves it", x.undo(), 1);
        Check.due("restore", x.restore(0), true);
        Check.due("undo", x.undo(), -1);
        Check.due("WEEK", x.now(0), 1);
        x.weeks(3);
        Check.due("what came behind it can", x.undo(), 0);
        Check.due("WEEK", x.now(0), 1);
    }

    private static void whatIsKept() {
        Check.of("40: OFFICE, all that is so and the SENTENCE are kept");
        LostCauses x = Check.office(OFFICE);
        Check.sentence(x, "had sue or dead");
        x.take(0, 0);
        x.act(0, 1);
        x.take(1, 2);
        x.weeks(2);
        x.drop(0);
        String kept = Check.all(x);
        int parts = x.parts(0);
        int ways = x.ways(2, 6);
        x.image(1);
        x.weeks(30);
        Check.sentence(x, "open");
        Check.tape(x, "line 3 4;coin 1;cause sue 9 9 9 9;deed max 20 20 20;clerk ann 9;");
        x.office();
        x.weeks(1);
        Check.due("restore", x.restore(1), true);
        Check.same("all", Check.all(x), kept);
        Check.due("parts", x.parts(0), parts);
        Check.due("ways", x.ways(2, 6), ways);
        Check.due("NAMES", Check.ledger(x, "eva does nap;max takes ann;", 0), 1);
        x.weeks(9);
        Check.due("again", x.restore(1), true);
        Check.due("WEEK", x.now(0), 2);
        LostCauses y = six();
        y.image(0);
        Check.sentence(y, "open");
        y.restore(0);
        Check.due("no SENTENCE is kept as none", y.said(-1), -1);
        LostCauses z = new LostCauses();
        z.image(0);
        Check.tape(z, OFFICE);
        z.office();
        Check.due("a new object's", z.restore(0), true);
        Check.same("all", Check.all(z), Check.all(new LostCauses()));
    }

    private static void whatStays() {
        Check.of("41: (the tape, and what other calls told last, stays");
        LostCauses x = Check.office("line 1 2;cause a 1 9 50 9;deed d 1 0 0;clerk k 1;");
        x.image(0);
        x.match();
        x.feed(0x02090000, 0, 0, 0, 0);
        x.end(2);
        x.flags(0);
        Check.ledger(x, "k drops;", 1);
        Check.sentence(x, "(");
        x.feed(1, 2, 3, 4, 5);
        x.restore(0);
        Check.due("matched", x.matched(0), 0);
        Check.due("tried", x.tried(), 1);
        Check.due("booked", x.booked(0), 21);
        Check.due("fault", x.fault(), 1);
        Check.due("bytes of the tape", x.count(6), 20);
    }

    private static void imagesAreTwo() {
        Check.of("40: in place k (0, 1)");
        LostCauses x = six();
        x.image(0);
        x.weeks(1);
        x.image(1);
        x.weeks(1);
        x.restore(0);
        Check.due("0", x.now(0), 0);
        x.restore(1);
        Check.due("1", x.now(0), 1);
        x.weeks(4);
        x.image(0);
        x.restore(1);
        x.restore(0);
        Check.due("0, kept anew", x.now(0), 5);
    }
}
