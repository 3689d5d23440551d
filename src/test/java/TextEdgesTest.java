/**
 * Edges that the document names of TOKENS, an OFFICE, its FAULTS, the tape and counts (promises 1 to 5, 42):
 * a test for each sentence.
 */
public final class TextEdgesTest {
    private static final String CAUSE = "cause c 0 1 1 1;";
    private static final String[] FULL = {"line 98 99;", "coin 999;",
        "cause ca 0 1 1 1;", "cause cb 1 2 2 2;", "cause cc 2 3 3 3;", "cause cd 3 4 4 4;", "cause ce 4 5 5 5;",
        "cause cf 99 99 99 20;",
        "rumour ca 10 11;", "rumour cb 20 21;", "rumour cc 30 31;", "rumour cd 40 41;", "rumour ce 50 51;",
        "rumour cf 99 99;",
        "deed da 0 1 2;", "deed db 3 4 5;", "deed dc 6 7 8;", "deed dd 9 10 11;", "deed de 12 13 14;",
        "deed df 20 20 20;",
        "clerk ka 1;", "clerk kb 2;", "clerk kc 3;", "clerk kd 4;", "clerk ke 9;"};
    private static final String[] RESERVED = {"line", "coin", "cause", "rumour", "deed", "clerk", "takes", "does",
        "drops", "week", "or", "and", "not", "open", "taken", "dropped", "won", "dead", "had", "near", "purse",
        "belief", "number"};

    public static void main(String[] args) {
        newObject();
        feedsOrder();
        feedsAnswer();
        feedTooMuch();
        endOfFewer();
        endOfMore();
        endBelowNone();
        endLeavesTheFirst();
        blanks();
        lettersOfWords();
        digitsOfNumbers();
        wordsAndNumbersGoOn();
        otherSigns();
        anEmptyOffice();
        mostBytes();
        tokensBegunAreReadWhole();
        mostBytesBehindAnotherFault();
        lineNumbers();
        lineOnce();
        coinNumbers();
        coinOnce();
        causeNumbers();
        rumourNumbers();
        rumourOnce();
        rumourOfOneNotTold();
        deedNumbers();
        clerkNumbers();
        namesThatAreTold();
        namesToldOnce();
        aFullOffice();
        tooManyOfASort();
        whatCantCome();
        theEnd();
        theFirstAlongTheText();
        theTapeIsEmptyThen();
        faultLeavesTheOffice();
        aNewOffice();
        faultOfTheLatest();
        counts();
        Check.finish();
    }

    private static void reads(String text, int answer, int kind) {
        LostCauses x = new LostCauses();
        Check.tape(x, text);
        String shown = text.length() > 70 ? ".." + text.substring(text.length() - 70) : text;
        Check.due("office of '" + shown + "'", x.office(), answer);
        Check.due("fault of '" + shown + "'", x.fault(), kind);
    }

    private static void good(String text, int lines) {
        reads(text, lines, 0);
    }

    private static void faulty(String text, int place, int kind) {
        reads(text, -1 - place, kind);
    }

    private static void newObject() {
        Check.of("1: An empty OFFICE; an empty tape.");
        LostCauses x = new LostCauses();
        LostCauses y = new LostCauses();
        Check.due("bytes", x.count(6), 0);
        Check.due("office() of an empty tape", y.office(), 0);
        Check.same("like the OFFICE of no LINES", Check.all(x), Check.all(y));
        Check.due("nothing to undo", x.undo(), -1);
        Check.due("no image", x.restore(0) || x.restore(1), false);
        Check.due("CAUSES and N, M", x.count(0) * 10000 + x.count(4) * 100 + x.count(5), 109);
    }

    private static void feedsOrder() {
        Check.of("2: Twenty bytes come behind the tape, of each number the highest first");
        LostCauses x = new LostCauses();
        x.feed(0x636f696e, 0x20313233, 0x3b636c65, 0x726b206b, 0x206f6c64);
        x.end(16);
        x.feed(0x20373b20, 0x20202020, 0x20202020, 0x20202020, 0x0a0a0a0a);
        Check.due("coin 123;clerk k 7;", x.office(), 2);
        Check.due("coin", x.now(1), 123);
        Check.due("zeal", x.clerk(0, 0), 7);
    }

    private static void feedsAnswer() {
        Check.of("2: how many it has");
        LostCauses x = new LostCauses();
        Check.due("first", x.feed(0, 0, 0, 0, 0), 20);
        Check.due("second", x.feed(-1, -1, -1, -1, -1), 40);
        x.end(7);
        Check.due("behind 7", x.feed(Integer.MIN_VALUE, Integer.MAX_VALUE, 0, 0, 0), 27);
    }

    private static void feedTooMuch() {
        Check.of("2: NONE, and none come, if it would have more than 940");
        LostCauses x = new LostCauses();
        for (int i = 1; i < 47; i++) {
            Check.due("feed", x.feed(0x20202020, 0x20202020, 0x20202020, 0x20202020, 0x20202020), 20 * i);
        }
        x.feed(0x20202020, 0x20202020, 0x20202020, 0x20202020, 0x20202020);
        Check.due("as many as may be", x.count(6), 940);
        Check.due("20 more", x.feed(0x20202020, 0x20202020, 0x20202020, 0x20202020, 0x20202020), -1);
        Check.due("none came", x.count(6), 940);
        x.end(921);
        Check.due("941", x.feed(0x61616161, 0x61616161, 0x61616161, 0x61616161, 0x61616161), -1);
        Check.due("none came", x.count(6), 921);
        x.end(920);
        Check.due("940", x.feed(0x20202020, 0x20202020, 0x20202020, 0x20202020, 0x20202020), 940);
        Check.due("end(900)", x.end(900), true);
        Check.due("nothing but blanks came", x.office(), 0);
        Check.due("and room again", x.feed(0, 0, 0, 0, 0), 20);
    }

    private static void endOfFewer() {
        Check.of("3: The tape has its first n bytes alone: true");
        LostCauses x = new LostCauses();
        Check.due("0 of none", x.end(0), true);
        x.feed(0, 0, 0, 0, 0);
        int[] ends = {20, 20, 19, 1, 0};
        for (int n : ends) {
            Check.due("end(" + n + ")", x.end(n), true);
            Check.due("bytes", x.count(6), n);
        }
    }

    private static void endOfMore() {
        Check.of("3: false, if it has not so many");
        LostCauses x = new LostCauses();
        Check.due("1 of none", x.end(1), false);
        x.feed(0, 0, 0, 0, 0);
        x.end(13);
        Check.due("14 of 13", x.end(14), false);
        Check.due("20 of 13", x.end(20), false);
        Check.due("the most", x.end(Integer.MAX_VALUE), false);
        Check.due("bytes", x.count(6), 13);
    }

    private static void endBelowNone() {
        Check.of("3: false, if n is below 0");
        LostCauses x = new LostCauses();
        Check.due("-1 of none", x.end(-1), false);
        x.feed(0, 0, 0, 0, 0);
        Check.due("-1", x.end(-1), false);
        Check.due("the least", x.end(Integer.MIN_VALUE), false);
        Check.due("bytes", x.count(6), 20);
    }

    private static void endLeavesTheFirst() {
        Check.of("3: its first n bytes alone");
        String[] whole = {"coin 12;", "clerk a 1;clerk b", "clerk k 9;;", "coin 5;coin 5;"};
        int[] cuts = {7, 10, 10, 7};
        int[] due = {-8, 1, 1, 1};
        for (int i = 0; i < whole.length; i++) {
            LostCauses x = new LostCauses();
            Check.tape(x, whole[i]);
            x.end(cuts[i]);
            Check.due("office of '" + whole[i] + "' cut to " + cuts[i], x.office(), due[i]);
        }
        LostCauses y = Check.office("cause a 0 9 9 9;cause b 0 9 9 9;cause c 0 9 9 9;cause d 0 9 9 9;");
        Check.tape(y, "number<30");
        y.end(8);
        Check.due("a NUMBER ends with the tape", y.sentence(), 1);
        Check.due("number<3", y.said(-1), 3);
        Check.tape(y, "opener");
        y.end(4);
        Check.due("a WORD ends with the tape", y.sentence(), 1);
        Check.due("open", y.said(-1), 4);
    }

    private static void blanks() {
        Check.of("TOKENS of all texts, with blanks (32, 10) between them or not");
        good("coin 5;line 1 2;", 2);
        good(" \n coin\n\n5 ; \nline\n1\n2 ;\n", 2);
        int[] others = {0, 9, 11, 13, 31, 33, 127, 128, 138, 160, 255};
        for (int sign : others) {
            faulty("coin" + (char) sign + "5;", 4, 1);
            faulty((char) sign + "coin 5;", 0, 1);
            faulty("coin 5;" + (char) sign, 7, 1);
        }
    }

    private static void lettersOfWords() {
        Check.of("WORDS: small letters, 1 to 7");
        good("clerk a 1;clerk z 1;clerk abcdefg 1;clerk zzzzzzz 1;", 4);
        faulty("clerk abcdefgh 1;", 6, 1);
        faulty("clerk zzzzzzzzzzzzzzzzzzzzzzzzzzzzzzzzzzzz 1;", 6, 1);
        faulty("clerk aAb 1;", 7, 1);
        faulty("clerk A 1;", 6, 1);
        faulty("clerk ` 1;", 6, 1);
        faulty("clerk { 1;", 6, 1);
        good("clerk abcdefg 1;clerk abcdef 1;clerk bcdefg 1;", 3);
        good("clerk linea 1;clerk lin 1;clerk alin 1;", 3);
    }

    private static void digitsOfNumbers() {
        Check.of("NUMBERS: 1 to 3 digits");
        good("coin 0;", 1);
        good("coin 000;", 1);
        good("coin 999;", 1);
        good("line 01 099;", 1);
        faulty("coin 0000;", 5, 1);
        faulty("coin 0001;", 5, 1);
        faulty("coin 1000;", 5, 1);
        faulty("coin 4294967297;", 5, 1);
        faulty("coin -1;", 5, 1);
        faulty("coin +1;", 5, 1);
        faulty("coin /;", 5, 1);
        faulty("coin :;", 5, 1);
    }

    private static void wordsAndNumbersGoOn() {
        Check.of("A WORD, NUMBER goes on as long as small letters and digits do; what is not as told is no TOKEN");
        faulty("coin5;", 0, 1);
        faulty("coin 5a;", 5, 1);
        faulty("clerk k1;", 6, 1);
        faulty("clerk k1 1;", 6, 1);
        faulty("clerk 1k 1;", 6, 1);
        faulty("clerkk 1;", 0, 1);
        faulty("clerk k 1clerk l 1;", 8, 1);
        good("clerk k 1;clerk l 1;", 2);
        faulty("clerk k\n1\n2;", 10, 1);
    }

    private static void otherSigns() {
        Check.of("1 no TOKEN, or one that can't come (at it)");
        String signs = "!\"#$%&'()*+,-./:<=>?@[\\]^_`{|}~";
        for (int i = 0; i < signs.length(); i++) {
            faulty("coin " + signs.charAt(i) + "5;", 5, 1);
            faulty("coin 5" + signs.charAt(i), 6, 1);
        }
    }

    private static void anEmptyOffice() {
        Check.of("An OFFICE is .. { LINE ; }: with no LINE too");
        good("", 0);
        good("\n", 0);
        good("   \n\n  ", 0);
        faulty(";", 0, 1);
        faulty("coin 5;;", 7, 1);
    }

    private static void mostBytes() {
        Check.of("An OFFICE is a text of at most 900 bytes; the most bytes told, if there are more");
        good(" ".repeat(900), 0);
        faulty(" ".repeat(901), 900, 1);
        faulty(" ".repeat(940), 900, 1);
        good(" ".repeat(893) + "coin 5;", 1);
        faulty(" ".repeat(893) + "coin 5; ", 900, 1);
        faulty(" ".repeat(894) + "coin 5;", 900, 1);
        faulty("coin 5;" + " ".repeat(932) + "A", 900, 1);
        faulty(" ".repeat(900) + "A", 900, 1);
        good(" ".repeat(892) + "coin\n5;\n", 1);
    }

    private static void tokensBegunAreReadWhole() {
        Check.of("TOKENS that begin ahead of it are read whole");
        faulty(" ".repeat(899) + "coin 5;", 900, 1);
        faulty(" ".repeat(899) + "coinage 5;", 899, 1);
        faulty(" ".repeat(899) + "abcdefgh", 899, 1);
        faulty(" ".repeat(899) + "co", 899, 1);
        faulty(" ".repeat(894) + "coin 999", 900, 1);
        faulty(" ".repeat(894) + "coin 9999", 899, 1);
        faulty(" ".repeat(894) + "coin 99a", 899, 1);
        faulty(" ".repeat(892) + "line 9 100;", 899, 2);
        faulty(" ".repeat(892) + "line 9 99;", 900, 1);
        faulty(" ".repeat(885) + "coin 5;" + " ".repeat(6) + "x 5;" + "y".repeat(30), 898, 1);
        faulty("clerk " + " ".repeat(893) + "k".repeat(41), 899, 1);
        faulty("clerk " + " ".repeat(893) + "k".repeat(7), 900, 1);
    }

    private static void mostBytesBehindAnotherFault() {
        Check.of("the most bytes told, if there are more and no FAULT is ahead");
        faulty("coin 5" + ";".repeat(930), 7, 1);
        faulty("clerk k 0;" + " ".repeat(900), 8, 2);
        faulty("coin 5;coin 5;" + " ".repeat(900), 7, 3);
        faulty(" ".repeat(899) + ";" + " ".repeat(40), 899, 1);
        faulty(" ".repeat(900) + ";" + " ".repeat(39), 900, 1);
    }

    private static void lineNumbers() {
        Check.of("'line' N M (1 to 98; more than N, to 99)");
        good("line 1 2;", 1);
        good("line 1 99;", 1);
        good("line 98 99;", 1);
        faulty("line 0 9;", 5, 2);
        faulty("line 99 99;", 5, 2);
        faulty("line 99 100;", 5, 2);
        faulty("line 100 5;", 5, 2);
        faulty("line 1 1;", 7, 2);
        faulty("line 1 0;", 7, 2);
        faulty("line 98 98;", 8, 2);
        faulty("line 98 97;", 8, 2);
        faulty("line 98 100;", 8, 2);
        faulty("line 1 999;", 7, 2);
        Check.of("1 9 without");
        LostCauses x = Check.office("coin 1;");
        Check.due("N", x.count(4), 1);
        Check.due("M", x.count(5), 9);
    }

    private static void lineOnce() {
        Check.of("what is told once told again (.. at the WORD)");
        faulty("line 1 2;line 1 2;", 9, 3);
        faulty("line 1 2;coin 5; line", 17, 3);
        faulty("line 1 2;line 99 1;", 9, 3);
    }

    private static void coinNumbers() {
        Check.of("'coin' N (0 to 999; .. 50 without)");
        int[] coins = {0, 1, 998, 999};
        for (int coin : coins) {
            Check.due("coin", Check.office("coin " + coin + ";").now(1), coin);
        }
        Check.due("without", Check.office("line 1 2;").now(1), 50);
        faulty("coin 1000;", 5, 1);
    }

    private static void coinOnce() {
        Check.of("'coin' N (.. once): what is told once told again (.. at the WORD)");
        faulty("coin 5;coin 5;", 7, 3);
        faulty("coin 5;line 1 2;\ncoin;", 17, 3);
    }

    private static void causeNumbers() {
        Check.of("'cause' NAME FOR AGAINST PURSE BELIEF (0 to 99; 1 to 99; 1 to 99; 1 to 20)");
        int[][] all = {{0, 1, 1, 1}, {99, 99, 99, 20}, {0, 99, 1, 20}, {99, 1, 99, 1}};
        for (int[] told : all) {
            LostCauses x = Check.office("cause c " + told[0] + " " + told[1] + " " + told[2] + " " + told[3] + ";");
            for (int what = 0; what < 4; what++) {
                Check.due("cause(0, " + what + ")", x.cause(0, what), told[what]);
            }
        }
        faulty("cause c 100 1 1 1;", 8, 2);
        faulty("cause c 0 0 1 1;", 10, 2);
        faulty("cause c 0 100 1 1;", 10, 2);
        faulty("cause c 0 1 0 1;", 12, 2);
        faulty("cause c 0 1 100 1;", 12, 2);
        faulty("cause c 0 1 1 0;", 14, 2);
        faulty("cause c 0 1 1 21;", 14, 2);
    }

    private static void rumourNumbers() {
        Check.of("'rumour' CAUSE FOR AGAINST (likewise");
        good(CAUSE + "rumour c 0 1;", 2);
        good(CAUSE + "rumour c 99 99;", 2);
        faulty(CAUSE + "rumour c 100 1;", 25, 2);
        faulty(CAUSE + "rumour c 0 0;", 27, 2);
        faulty(CAUSE + "rumour c 0 100;", 27, 2);
        faulty(CAUSE + "rumour c 0 1 1;", 29, 1);
    }

    private static void rumourOnce() {
        Check.of("each CAUSE once");
        String two = CAUSE + "cause d 0 1 1 1;";
        good(two + "rumour d 0 1;rumour c 0 1;", 4);
        faulty(two + "rumour d 0 1;rumour c 0 1;rumour d 0 1;", 65, 3);
        faulty(two + "rumour c 0 1;rumour c", 52, 3);
    }

    private static void rumourOfOneNotTold() {
        Check.of("3 a NAME .. not told, or of another sort .. (at it)");
        faulty("rumour c 0 1;" + CAUSE, 7, 3);
        faulty(CAUSE + "rumour d 0 1;", 23, 3);
        faulty(CAUSE + "rumour cc 0 1;", 23, 3);
        faulty("deed c 0 0 0;rumour c 0 1;", 20, 3);
        faulty("clerk c 1;rumour c 0 1;", 17, 3);
    }

    private static void deedNumbers() {
        Check.of("'deed' NAME UP DOWN COST (0 to 20 all)");
        int[][] all = {{0, 0, 0}, {20, 20, 20}, {20, 0, 0}, {0, 20, 0}, {0, 0, 20}};
        for (int[] told : all) {
            LostCauses x = Check.office("deed d " + told[0] + " " + told[1] + " " + told[2] + ";");
            for (int what = 0; what < 3; what++) {
                Check.due("deed(0, " + what + ")", x.deed(0, what), told[what]);
            }
        }
        faulty("deed d 21 0 0;", 7, 2);
        faulty("deed d 0 21 0;", 9, 2);
        faulty("deed d 0 0 21;", 11, 2);
    }

    private static void clerkNumbers() {
        Check.of("'clerk' NAME ZEAL (1 to 9)");
        Check.due("least", Check.office("clerk k 1;").clerk(0, 1), 1);
        Check.due("most", Check.office("clerk k 9;").clerk(0, 1), 9);
        faulty("clerk k 0;", 8, 2);
        faulty("clerk k 10;", 8, 2);
    }

    private static void namesThatAreTold() {
        Check.of("NAME: a WORD, none of those told here, in a LEDGER or a SENTENCE");
        for (String word : RESERVED) {
            faulty("cause " + word + " 0 1 1 1;", 6, 1);
            faulty("deed " + word + " 0 0 0;", 5, 1);
            faulty("clerk " + word + " 1;", 6, 1);
            faulty(CAUSE + "rumour " + word + " 0 1;", 23, 1);
        }
        good("cause lines 0 1 1 1;deed weeks 0 0 0;clerk drop 1;clerk take 1;clerk do 1;clerk nor 1;", 6);
    }

    private static void namesToldOnce() {
        Check.of("told once: 3 a NAME told twice .. (at it)");
        String[] firsts = {CAUSE, "deed c 0 0 0;", "clerk c 1;"};
        for (String first : firsts) {
            faulty(first + CAUSE, first.length() + 6, 3);
            faulty(first + "deed c 0 0 0;", first.length() + 5, 3);
            faulty(first + "clerk c 1;", first.length() + 6, 3);
            faulty(first + "clerk c", first.length() + 6, 3);
            good(first + "clerk cc 1;cause d 0 1 1 1;deed e 0 0 0;", 4);
        }
    }

    private static void aFullOffice() {
        Check.of("6 CAUSES, 6 DEEDS, 5 CLERKS at most, numbered from 0 each");
        LostCauses x = new LostCauses();
        Check.tape(x, String.join("", FULL));
        Check.due("LINES", x.office(), 25);
        int[] counts = {6, 6, 5, 6, 98, 99, 0};
        for (int i = 0; i < counts.length; i++) {
            Check.due("count(" + i + ")", x.count(i), counts[i]);
        }
        for (int c = 0; c < 5; c++) {
            Check.due("FOR of " + c, x.cause(c, 0), c);
            Check.due("AGAINST of " + c, x.cause(c, 1), c + 1);
            Check.due("UP of " + c, x.deed(c, 0), 3 * c);
            Check.due("COST of " + c, x.deed(c, 2), 3 * c + 2);
            Check.due("zeal of " + c, x.clerk(c, 0), c == 4 ? 9 : c + 1);
        }
        Check.due("the last CAUSE", x.cause(5, 3), 20);
        Check.due("the last DEED", x.deed(5, 1), 20);
        Check.throwsNone("a seventh CAUSE", () -> x.cause(6, 0));
        Check.due("a seventh DEED", x.deed(6, 0), -1);
        Check.due("a sixth CLERK", x.clerk(5, 0), -1);
    }

    private static void tooManyOfASort() {
        Check.of("4 one more than there may be of a sort (at the LINE's first WORD)");
        String full = String.join("", FULL);
        int place = full.length();
        faulty(full + "cause g 0 1 1 1;", place, 4);
        faulty(full + "deed g 0 0 0;", place, 4);
        faulty(full + "clerk g 1;", place, 4);
        faulty(full + " \ncause ca", place + 2, 4);
        faulty(full + "deed", place, 4);
        faulty(full + "clerk;", place, 4);
        faulty(full + "rumour ca 0 1;", place + 7, 3);
    }

    private static void whatCantCome() {
        Check.of("1 .. one that can't come (at it)");
        String[] firsts = {"5;", "takes;", "or;", "number;", "k;", "<", "(", "."};
        for (String first : firsts) {
            faulty(first, 0, 1);
            faulty(CAUSE + first, 16, 1);
        }
        faulty("line coin;", 5, 1);
        faulty("line 1;", 6, 1);
        faulty("line 1 x;", 7, 1);
        faulty("line 1 2 3;", 9, 1);
        faulty("coin;", 4, 1);
        faulty("coin 1 2;", 7, 1);
        faulty("cause;", 5, 1);
        faulty("cause 5 0 1 1 1;", 6, 1);
        faulty("cause c;", 7, 1);
        faulty("cause c d 0 1 1 1;", 8, 1);
        faulty("cause c 0 1 1;", 13, 1);
        faulty("cause c 0 1 1 1 1;", 16, 1);
        faulty("deed d 0 0;", 10, 1);
        faulty("deed d 0 0 0 0;", 13, 1);
        faulty("clerk k;", 7, 1);
        faulty("clerk k 1 1;", 10, 1);
        faulty("coin 1 line 1 2;", 7, 1);
    }

    private static void theEnd() {
        Check.of("the end: how many bytes there are");
        String whole = "line 1 2;";
        for (int cut = 1; cut < whole.length(); cut++) {
            boolean isWord = cut >= 4;
            faulty(whole.substring(0, cut), isWord ? cut : 0, 1);
        }
        faulty("line 1 2   ", 11, 1);
        faulty("coin\n\n", 6, 1);
        faulty("cause", 5, 1);
        faulty("deed d 0 ", 9, 1);
    }

    private static void theFirstAlongTheText() {
        Check.of("FAULTS, the first along the text");
        faulty("clerk k 0;clerk k 1;A", 8, 2);
        faulty("clerk k 1;clerk k 0;A", 16, 3);
        faulty("clerk k 1 A;clerk k 0;", 10, 1);
        faulty("line 9 9;line 9 9;", 7, 2);
        faulty("coin 5;A;coin 5;", 7, 1);
    }

    private static void theTapeIsEmptyThen() {
        Check.of("4: The tape (empty then, with a FAULT, too, here and below)");
        String[] texts = {"", "coin 5;", "coin 5", " ".repeat(940)};
        for (String text : texts) {
            LostCauses x = new LostCauses();
            Check.tape(x, text);
            x.office();
            Check.due("bytes behind office()", x.count(6), 0);
            Check.tape(x, text);
            x.sentence();
            Check.due("bytes behind sentence()", x.count(6), 0);
            Check.tape(x, text);
            x.ledger(0);
            Check.due("bytes behind ledger(0)", x.count(6), 0);
            Check.tape(x, text);
            x.ledger(1);
            Check.due("bytes behind ledger(1)", x.count(6), 0);
            Check.tape(x, text);
            x.flags(0);
            Check.due("bytes behind flags()", x.count(6), 0);
        }
    }

    private static void faultLeavesTheOffice() {
        Check.of("4: -1 less the place of a FAULT: it stays");
        LostCauses x = Check.office("line 2 7;coin 5;cause c 0 9 9 9;rumour c 1 2;deed d 1 1 1;clerk k 3;");
        Check.sentence(x, "taken");
        x.take(0, 0);
        x.act(0, 0);
        String before = Check.all(x).replace(" fault 0", " fault 4");
        Check.tape(x, "line 3 8;coin 7;clerk l 1;clerk a 1;clerk b 1;clerk c 1;clerk d 1;clerk");
        Check.due("a FAULT", x.office(), -67);
        Check.same("it stays", Check.all(x), before);
        Check.due("PARTS", x.parts(0), 0);
        Check.due("what was done can be undone", x.undo(), 1);
        Check.due("still", x.undo(), 0);
        Check.due("NAMES are those of the OFFICE that stays", Check.ledger(x, "k takes c;k does d;", 0), -1);
    }

    private static void aNewOffice() {
        Check.of("A new OFFICE: WEEK 0, all open, no SENTENCE; nothing can be undone (what other calls told last stays)");
        String office = "line 3 7;coin 9;cause c 1 9 9 9;rumour c 1 2;deed d 20 0 1;clerk k 3;";
        LostCauses x = Check.office(office);
        Check.sentence(x, "open");
        x.match();
        Check.ledger(x, "k takes c;k drops;k drops;", 0);
        x.feed(0x01090000, 0, 0, 0, 0);
        x.end(2);
        Check.due("flags", x.flags(0), 1);
        x.take(0, 0);
        x.act(0, 0);
        x.weeks(1);
        Check.due("a DISGRACE", x.now(2), 1);
        Check.tape(x, office);
        x.office();
        String fresh = Check.all(Check.office(office));
        String stays = fresh.replace(" matched -1 1 9", " matched 0 1 9").replace(" tried -1", " tried 0")
            .replace(" booked -1 booked -1 booked -1 booked -1", " booked 21 booked 2 booked 11 booked 0");
        Check.same("as a new one, but for what was told last", Check.all(x), stays);
        Check.due("nothing can be undone", x.undo(), -1);
        Check.due("no SENTENCE", x.said(-1), -1);
        Check.tape(x, "cause c 0 9 9 9;");
        x.office();
        Check.due("no rumour is left of the one ahead", x.count(3), 0);
        Check.due("none to part", x.parts(0), -1);
        Check.due("N, M, coin without", x.count(4) * 10000 + x.count(5) * 1000 + x.now(1), 19050);
        Check.due("no DEEDS are left", x.ways(0, 6), 1);
    }

    private static void faultOfTheLatest() {
        Check.of("5: The kind of the FAULT of the latest office(), ledger() or sentence(); 0 without one and ahead of any");
        LostCauses x = new LostCauses();
        Check.due("ahead of any", x.fault(), 0);
        Check.tape(x, "clerk k 1;clerk k 1;");
        x.office();
        Check.due("of an office()", x.fault(), 3);
        Check.sentence(x, "open or");
        Check.due("of a sentence()", x.fault(), 1);
        Check.ledger(x, "week 0;", 1);
        Check.due("of a ledger()", x.fault(), 2);
        Check.of("5: a ledger() of -1000 leaves it");
        Check.tape(x, "week 1;");
        Check.due("another lives", x.ledger(2), -1000);
        Check.due("left", x.fault(), 2);
        Check.of("5: 0 without one");
        Check.due("a good ledger()", x.ledger(0), -1);
        Check.due("fault", x.fault(), 0);
        Check.sentence(x, "(");
        Check.due("another", x.fault(), 1);
        Check.sentence(x, "open");
        Check.due("a good sentence()", x.fault(), 0);
        Check.tape(x, "week");
        x.office();
        Check.due("another", x.fault(), 1);
        x.flags(0);
        x.restore(0);
        x.undo();
        Check.due("others leave it", x.fault(), 1);
        x.office();
        Check.due("a good office()", x.fault(), 0);
    }

    private static void counts() {
        Check.of("42: NONE for another what");
        LostCauses x = Check.office(String.join("", FULL));
        int[] others = {-1, 7, 8, Integer.MIN_VALUE, Integer.MAX_VALUE};
        for (int what : others) {
            Check.due("count(" + what + ")", x.count(what), -1);
        }
        Check.of("42: 6 bytes of the tape");
        x.feed(0, 0, 0, 0, 0);
        x.feed(0, 0, 0, 0, 0);
        x.end(39);
        Check.due("bytes", x.count(6), 39);
    }
}
