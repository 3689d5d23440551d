/** Promises 2 to 5 and 42: the tape, the OFFICE and its FAULTS. */
public final class TextsTest {
    public static void main(String[] args) {
        tape();
        offices();
        tokenFaults();
        numberFaults();
        nameFaults();
        tooMany();
        tooLong();
        faultLeavesAll();
        counts();
        Check.finish();
    }

    private static void tape() {
        LostCauses x = new LostCauses();
        for (int i = 1; i <= 47; i++) {
            Check.due("feed, time " + i, x.feed(0, 0, 0, 0, 0), 20 * i);
        }
        Check.due("feed beyond 940", x.feed(0, 0, 0, 0, 0), -1);
        Check.due("bytes of a full tape", x.count(6), 940);
        Check.due("end(941)", x.end(941), false);
        Check.due("end(-1)", x.end(-1), false);
        Check.due("end(940)", x.end(940), true);
        Check.due("end(921)", x.end(921), true);
        Check.due("feed to 941", x.feed(0, 0, 0, 0, 0), -1);
        Check.due("end(920)", x.end(920), true);
        Check.due("feed to 940", x.feed(0, 0, 0, 0, 0), 940);
        Check.due("end(0)", x.end(0), true);
        Check.due("end(1) of none", x.end(1), false);
        Check.due("feed of line", x.feed(0x636f696e, 0x20373b00, 0, 0, 0xff000000), 20);
        Check.due("end(7)", x.end(7), true);
        Check.due("office()", x.office(), 1);
        Check.due("coin by the highest byte first", x.now(1), 7);
        Check.due("bytes behind office()", x.count(6), 0);
    }

    private static void reads(String text, int answer, int kind) {
        LostCauses x = new LostCauses();
        Check.tape(x, text);
        String shown = text.length() > 60 ? text.substring(0, 60) + ".." : text;
        Check.due("office of '" + shown + "'", x.office(), answer);
        Check.due("fault of '" + shown + "'", x.fault(), kind);
        Check.due("bytes behind '" + shown + "'", x.count(6), 0);
    }

    private static void faulty(String text, int place, int kind) {
        reads(text, -1 - place, kind);
    }

    private static void offices() {
        reads("", 0, 0);
        reads(" \n ", 0, 0);
        reads("line 98 99;coin 999;", 2, 0);
        reads("line\n001 9 ; coin 0;", 2, 0);
        reads("cause abcdefg 0 1 1 1;cause z 99 99 99 20;rumour z 0 99;deed d 0 0 0;deed e 20 20 20;"
            + "clerk k 1;clerk l 9;", 7, 0);
    }

    private static void tokenFaults() {
        faulty("coin 5", 6, 1);
        faulty("coin 5 \n ", 9, 1);
        faulty("coin", 4, 1);
        faulty("coin;", 4, 1);
        faulty("coin five;", 5, 1);
        faulty("coin 5 5;", 7, 1);
        faulty("coin 0005;", 5, 1);
        faulty("coin5;", 0, 1);
        faulty("5;", 0, 1);
        faulty(";", 0, 1);
        faulty("coin 5.", 6, 1);
        faulty("coin 5,", 6, 1);
        faulty("coin\t5;", 4, 1);
        faulty("takes 5;", 0, 1);
        faulty("cause abcdefgh 1 1 1 1;", 6, 1);
        faulty("cause c1 1 1 1 1;", 6, 1);
        faulty("cause 1 1 1 1 1;", 6, 1);
        faulty("cause c 1 1 1;", 13, 1);
        faulty("rumour number 1 1;", 7, 1);
        faulty("rumour 1 1 1;", 7, 1);
        faulty("line;", 4, 1);
        faulty("line 1;", 6, 1);
        faulty("cause;", 5, 1);
        faulty("cause c;", 7, 1);
        faulty("cause c 1 1 1;", 13, 1);
        faulty("cause c 1 1 1 1;rumour;", 22, 1);
        faulty("cause c 1 1 1 1;rumour c;", 24, 1);
        faulty("deed;", 4, 1);
        faulty("deed d;", 6, 1);
        faulty("clerk;", 5, 1);
        faulty("clerk k;", 7, 1);
        for (String word : Model.RESERVED) {
            faulty("deed " + word + " 1 1 1;", 5, 1);
        }
        LostCauses x = new LostCauses();
        Check.tape(x, new byte[] {'c', (byte) 233, 0});
        Check.due("office of a sign above 127", x.office(), -1);
        Check.due("and a second time, the tape empty", x.office(), 0);
        Check.due("fault of it", x.fault(), 0);
    }

    private static void numberFaults() {
        faulty("line 0 5;", 5, 2);
        faulty("line 99 99;", 5, 2);
        faulty("line 9 9;", 7, 2);
        faulty("line 9 100;", 7, 2);
        faulty("cause c 100 1 1 1;", 8, 2);
        faulty("cause c 0 0 1 1;", 10, 2);
        faulty("cause c 0 100 1 1;", 10, 2);
        faulty("cause c 0 1 0 1;", 12, 2);
        faulty("cause c 0 1 100 1;", 12, 2);
        faulty("cause c 0 1 1 0;", 14, 2);
        faulty("cause c 0 1 1 21;", 14, 2);
        faulty("cause c 0 1 1 1;rumour c 100 1;", 25, 2);
        faulty("cause c 0 1 1 1;rumour c 0 0;", 27, 2);
        faulty("deed d 21 0 0;", 7, 2);
        faulty("deed d 0 21 0;", 9, 2);
        faulty("deed d 0 0 21;", 11, 2);
        faulty("clerk k 0;", 8, 2);
        faulty("clerk k 10;", 8, 2);
        faulty("clerk k 10 z", 8, 2);
    }

    private static void nameFaults() {
        faulty("coin 1;coin 1;", 7, 3);
        faulty("line 1 2;line 0 0;", 9, 3);
        faulty("rumour c 1 1;", 7, 3);
        faulty("deed d 0 0 0;rumour d 1 1;", 20, 3);
        faulty("cause c 0 1 1 1;clerk c 1;", 22, 3);
        faulty("cause c 0 1 1 1;deed c 0 0 0;", 21, 3);
        faulty("clerk c 1;cause c 0 1 1 1;", 16, 3);
        faulty("cause c 0 1 1 1;rumour c 0 1;rumour c 0 1;", 36, 3);
    }

    private static void tooMany() {
        StringBuilder text = new StringBuilder();
        for (char name = 'a'; name < 'g'; name++) {
            text.append("cause c" + name + " 0 1 1 1;deed d" + name + " 0 0 0;");
            if (name < 'f') {
                text.append("clerk k" + name + " 1;");
            }
        }
        reads(text.toString(), 17, 0);
        faulty(text + "cause ca 0 1 1 1;", text.length(), 4);
        faulty(text + "deed;", text.length(), 4);
        faulty(text + " clerk", text.length() + 1, 4);
    }

    private static void tooLong() {
        String blanks = " ".repeat(880);
        reads(blanks + "coin 5;" + " ".repeat(13), 1, 0);
        faulty(blanks + "coin 5;" + " ".repeat(14), 900, 1);
        faulty(blanks + "coin 5" + " ".repeat(20) + ";", 900, 1);
        faulty(" ".repeat(940), 900, 1);
        faulty(" ".repeat(899) + "coin 5;", 900, 1);
        faulty(" ".repeat(899) + "coins 5;", 899, 1);
        faulty(" ".repeat(895) + "coin 1000;", 900, 1);
        faulty(" ".repeat(894) + "coin 1000;", 899, 1);
        faulty(" ".repeat(893) + "coin 9 5;", 900, 1);
        faulty(" ".repeat(892) + "coin 9 5;", 899, 1);
        faulty(" ".repeat(892) + "coin 9;coin 5;", 899, 3);
    }

    private static void faultLeavesAll() {
        LostCauses x = Check.office("line 2 7;coin 5;cause c 0 9 9 9;clerk k 1;");
        Check.due("sentence", Check.sentence(x, "open"), 1);
        Check.due("take", x.take(0, 0), 0);
        Check.tape(x, "coin 9;cause d 0 0 0 0;");
        Check.due("office with a FAULT", x.office(), -18);
        Check.due("its fault", x.fault(), 2);
        Check.due("CAUSES", x.count(0), 1);
        Check.due("CLERKS", x.count(2), 1);
        Check.due("N", x.count(4), 2);
        Check.due("coin", x.now(1), 5);
        Check.due("STATE", x.cause(0, 4), 1);
        Check.due("said", x.said(-1), 0);
        Check.due("undo", x.undo(), 0);
        Check.due("weeks", x.weeks(3), 3);
        Check.due("another office", x.office(), 0);
        Check.due("fault of none", x.fault(), 0);
        Check.due("CAUSES of none", x.count(0), 0);
        Check.due("N of none", x.count(4), 1);
        Check.due("M of none", x.count(5), 9);
        Check.due("coin of none", x.now(1), 50);
        Check.due("WEEK of a new OFFICE", x.now(0), 0);
        Check.due("no SENTENCE in a new OFFICE", x.said(-1), -1);
        Check.due("nothing to undo in a new OFFICE", x.undo(), -1);
    }

    private static void counts() {
        LostCauses x = Check.office("line 3 98;cause c 0 9 9 9;cause d 0 9 9 9;rumour d 1 1;deed e 1 1 1;"
            + "deed f 1 1 1;deed g 1 1 1;clerk k 1;");
        x.feed(1, 2, 3, 4, 5);
        int[] due = {2, 3, 1, 1, 3, 98, 20};
        for (int i = 0; i < due.length; i++) {
            Check.due("count(" + i + ")", x.count(i), due[i]);
        }
        Check.due("count(7)", x.count(7), -1);
        Check.due("count(-1)", x.count(-1), -1);
    }
}
