import java.nio.charset.StandardCharsets;
import java.util.ArrayList;
import java.util.List;
import java.util.Random;

/** Runs of calls by a fixed seed, each answer held against the Model's. */
public final class ModelTest {
    private static final int RUNS = 700;
    private static final int CALLS = 400;
    private static final String[] FILLERS = {"line", "coin", "cause", "rumour", "deed", "clerk", "takes", "does",
        "drops", "week", "or", "and", "not", "open", "taken", "dropped", "won", "dead", "had", "near", "purse",
        "belief", "number", ";", "<", "=", ">", "(", ")", ".", "0", "1", "21", "99", "100", "1000", "ca", "da", "ka",
        "zz", "toolongs", "seven", "A", "a1", "1a", "\n", "  ", "\u00e9", "-"};

    private final Random random;
    private final LostCauses real = new LostCauses();
    private final Model model = new Model();
    private final StringBuilder log = new StringBuilder();
    private int deeds;
    private int causes;
    private int clerks;
    private static int wrong = 0;

    private ModelTest(int seed) {
        random = new Random(seed);
    }

    public static void main(String[] args) {
        for (int seed = 0; seed < RUNS && wrong < 5; seed++) {
            new ModelTest(seed).run(seed);
        }
        Check.due("runs unlike the Model", wrong, 0);
        Check.finish();
    }

    private void run(int seed) {
        int before = wrong;
        readOffice();
        for (int i = 0; i < CALLS && wrong == before; i++) {
            int kind = random.nextInt(100);
            if (kind < 45) {
                change();
            } else if (kind < 95) {
                ask();
            } else {
                readText();
            }
            if (random.nextInt(10) == 0) {
                compareAll();
            }
        }
        if (wrong != before) {
            System.out.println("seed " + seed + ":" + log.substring(Math.max(0, log.length() - 2500)));
        }
    }

    private void same(String call, Check.Call got, Check.Call due) {
        long answer = Check.threw(got);
        long want = Check.threw(due);
        log.append(' ').append(call).append('=').append(answer);
        if (answer != want) {
            log.append(" (due ").append(want).append(')');
            wrong++;
        }
    }

    private int among(int size) {
        return random.nextInt(12) == 0 ? random.nextInt(10) - 2 : size > 0 ? random.nextInt(size) : 0;
    }

    private int between(int least, int most) {
        return least + random.nextInt(most - least + 1);
    }

    private void change() {
        int k = among(clerks);
        int c = among(causes);
        int d = among(deeds);
        int n = random.nextInt(30) == 0 ? between(-2, 60) : between(1, 5);
        int seed = random.nextInt();
        switch (random.nextInt(12)) {
            case 0, 1 -> same("take(" + k + "," + c + ")", () -> real.take(k, c), () -> model.take(k, c));
            case 2, 3, 4, 5 -> same("act(" + k + "," + d + ")", () -> real.act(k, d), () -> model.act(k, d));
            case 6, 7 -> same("drop(" + k + ")", () -> real.drop(k), () -> model.drop(k));
            case 8, 9 -> same("weeks(" + n + ")", () -> real.weeks(n), () -> model.weeks(n));
            case 10 -> same("drawn(" + n + "," + seed + ")", () -> real.drawn(n, seed), () -> model.drawn(n, seed));
            default -> {
                if (random.nextInt(3) == 0) {
                    same("undo()", real::undo, model::undo);
                } else if (random.nextInt(2) == 0) {
                    int i = between(-1, 2);
                    same("image(" + i + ")", () -> real.image(i) ? 1 : 0, () -> model.image(i) ? 1 : 0);
                } else if (random.nextInt(6) == 0) {
                    int i = between(-1, 2);
                    same("restore(" + i + ")", () -> real.restore(i) ? 1 : 0, () -> model.restore(i) ? 1 : 0);
                    count();
                }
            }
        }
    }

    private void ask() {
        int k = among(clerks);
        int c = among(causes);
        int n = random.nextInt(30) == 0 ? between(-2, 60) : between(1, 8);
        int set = random.nextInt(20) == 0 ? between(-70, 130) : random.nextInt(1 << deeds);
        int few = random.nextInt(9) - 1;
        int seed = random.nextInt();
        switch (random.nextInt(18)) {
            case 0 -> same("nearest(" + c + "," + few + ")", () -> real.nearest(c, few), () -> model.nearest(c, few));
            case 1 -> same("near(" + c + "," + set + ")", () -> real.near(c, set), () -> model.near(c, set));
            case 2 -> same("orders(" + c + "," + set + ")", () -> real.orders(c, set), () -> model.orders(c, set));
            case 3 -> same("ways(" + c + "," + few + ")", () -> real.ways(c, few), () -> model.ways(c, few));
            case 4 -> same("value(" + k + "," + c + ")", () -> real.value(k, c), () -> model.value(k, c));
            case 5 -> {
                if (random.nextInt(4) == 0) {
                    same("match()", real::match, model::match);
                }
            }
            case 6 -> same("rests(" + few + ")", () -> real.rests(few), () -> model.rests(few));
            case 7 -> same("parts(" + c + ")", () -> real.parts(c), () -> model.parts(c));
            case 8 -> same("plot(" + c + ")", () -> real.plot(c), () -> model.plot(c));
            case 9 -> {
                int what = between(-1, 2);
                same("fair(" + c + "," + what + ")", () -> real.fair(c, what), () -> model.fair(c, what));
                same("odds(" + c + "," + what + ")", () -> real.odds(c, what), () -> model.odds(c, what));
            }
            case 10 -> {
                int s = between(-1, 3);
                same("school(" + s + "," + n + ")", () -> real.school(s, n), () -> model.school(s, n));
            }
            case 11 -> {
                if (random.nextInt(3) == 0) {
                    same("best(" + n + ")", () -> real.best(n), () -> model.best(n));
                }
            }
            case 12 -> same("pay(" + c + ")", () -> real.pay(c), () -> model.pay(c));
            case 13 -> same("dies(" + c + ")", () -> real.dies(c), () -> model.dies(c));
            case 14 -> same("saddest()", real::saddest, model::saddest);
            case 15 -> {
                if (random.nextInt(4) == 0) {
                    same("risk(" + n + "," + seed + ")", () -> real.risk(n, seed), () -> model.risk(n, seed));
                }
            }
            case 16 -> same("matched(" + k + ")", () -> real.matched(k), () -> model.matched(k));
            default -> same("said(" + few + ")", () -> real.said(few), () -> model.said(few));
        }
    }

    private void compareAll() {
        for (int i = -1; i < 8; i++) {
            int what = i;
            same("now(" + i + ")", () -> real.now(what), () -> model.now(what));
            same("count(" + i + ")", () -> real.count(what), () -> model.count(what));
            same("booked(" + i + ")", () -> real.booked(what), () -> model.booked(what));
            same("matched(" + i + ")", () -> real.matched(what), () -> model.matched(what));
        }
        same("fault()", real::fault, model::fault);
        same("tried()", real::tried, model::tried);
        for (int i = -1; i <= 6; i++) {
            for (int j = -1; j <= 9; j++) {
                int a = i;
                int b = j;
                same("cause(" + i + "," + j + ")", () -> real.cause(a, b), () -> model.cause(a, b));
                same("clerk(" + i + "," + j + ")", () -> real.clerk(a, b), () -> model.clerk(a, b));
                same("deed(" + i + "," + j + ")", () -> real.deed(a, b), () -> model.deed(a, b));
            }
        }
    }

    private void count() {
        causes = real.count(0);
        deeds = real.count(1);
        clerks = real.count(2);
    }

    private void readText() {
        int sort = random.nextInt(8);
        if (sort == 0 && random.nextInt(4) == 0) {
            readOffice();
        } else if (sort < 3) {
            tape(spoiltAtTimes(sentenceText(between(1, 4)), 200));
            same("sentence()", real::sentence, model::sentence);
        } else if (sort < 6) {
            tape(spoiltAtTimes(ledgerText(), 400));
            int lives = random.nextInt(20) == 0 ? 2 : random.nextInt(2);
            same("ledger(" + lives + ")", () -> real.ledger(lives), () -> model.ledger(lives));
            same("end(0)", () -> real.end(0) ? 1 : 0, () -> model.end(0) ? 1 : 0);
        } else {
            int c = among(causes);
            readFlags(c);
        }
        compareAll();
    }

    private void readFlags(int c) {
        int pro = random.nextInt(256);
        int contra = random.nextInt(256);
        if (c >= 0 && c < causes && random.nextInt(5) > 0) {
            pro = (int) Math.min(255, Math.abs(real.cause(c, 0)) + 0L);
            contra = real.cause(c, 1);
        }
        String text = "" + (char) pro + (char) Math.min(255, contra);
        tape(random.nextInt(10) == 0 ? text + "x" : text);
        same("flags(" + c + ")", () -> real.flags(c), () -> model.flags(c));
        same("tried()", real::tried, model::tried);
    }

    private void readOffice() {
        tape(spoiltAtTimes(officeText(), 900));
        same("office()", real::office, model::office);
        same("fault()", real::fault, model::fault);
        count();
        compareAll();
    }

    private String officeText() {
        List<String> lines = new ArrayList<>();
        if (random.nextInt(4) > 0) {
            int n = random.nextInt(5) == 0 ? between(1, 98) : between(1, 8);
            lines.add("line " + n + " " + between(n + 1, Math.min(99, n + 12)) + ";");
        }
        if (random.nextInt(4) > 0) {
            lines.add("coin " + between(0, random.nextInt(2) == 0 ? 30 : 999) + ";");
        }
        boolean small = random.nextInt(3) > 0;
        for (int i = random.nextInt(8) == 0 ? between(6, 7) : between(0, 6); i > 0; i--) {
            String name = "c" + (char) ('a' + i);
            lines.add("cause " + name + " " + between(0, small ? 6 : 99) + " " + between(1, small ? 40 : 99) + " "
                + between(1, 99) + " " + between(1, 20) + ";");
            if (random.nextInt(2) == 0) {
                lines.add("rumour " + name + " " + between(0, small ? 6 : 99) + " " + between(1, small ? 40 : 99) + ";");
            }
        }
        for (int i = random.nextInt(8) == 0 ? between(6, 7) : between(0, 6); i > 0; i--) {
            int most = small ? 5 : 20;
            lines.add("deed d" + (char) ('a' + i) + " " + between(0, most) + " " + between(0, most) + " "
                + between(0, most) + ";");
        }
        for (int i = random.nextInt(8) == 0 ? between(5, 6) : between(0, 5); i > 0; i--) {
            lines.add("clerk k" + (char) ('a' + i) + " " + between(1, random.nextInt(2) == 0 ? 3 : 9) + ";");
        }
        return String.join(random.nextInt(2) == 0 ? "" : "\n", lines);
    }

    private String ledgerText() {
        StringBuilder text = new StringBuilder();
        for (int i = random.nextInt(6) == 0 ? 41 : between(0, 8); i > 0; i--) {
            String clerk = "k" + (char) ('b' + random.nextInt(5));
            switch (random.nextInt(4)) {
                case 0 -> text.append(clerk + " takes c" + (char) ('b' + random.nextInt(6)) + ";");
                case 1 -> text.append(clerk + " does d" + (char) ('b' + random.nextInt(6)) + ";");
                case 2 -> text.append(clerk + " drops;");
                default -> text.append("week " + between(1, random.nextInt(10) == 0 ? 50 : 3) + ";");
            }
        }
        return text.toString();
    }

    private String sentenceText(int depth) {
        StringBuilder text = new StringBuilder();
        int ones = random.nextInt(3) + 1;
        for (int i = 0; i < ones; i++) {
            if (i > 0) {
                text.append(random.nextInt(2) == 0 ? " and " : " or ");
            }
            int kind = random.nextInt(7);
            if (kind == 0) {
                text.append("not not ".substring(random.nextInt(2) * 4));
            }
            if (depth > 0 && kind < 4) {
                text.append('(').append(sentenceText(depth - 1)).append(')');
            } else if (kind == 4) {
                text.append("had d").append((char) ('b' + random.nextInt(Math.max(1, deeds))));
            } else if (kind == 5) {
                text.append(Model.STATES.get(random.nextInt(5)));
            } else {
                String measure = List.of("near", "purse", "belief", "number").get(random.nextInt(4));
                int most = measure.equals("number") ? 5 : measure.equals("belief") ? 20 : measure.equals("near") ? 999 : 99;
                text.append(measure).append("<=>".charAt(random.nextInt(3))).append(between(0, most));
            }
        }
        return text.toString();
    }

    /** Now and then a text with words put in, taken out or strewn, or one that is longer than may be. */
    private String spoiltAtTimes(String text, int most) {
        int kind = random.nextInt(10);
        if (kind < 6) {
            return text.substring(0, Math.min(940, text.length()));
        }
        StringBuilder spoilt = new StringBuilder(text);
        if (kind < 9) {
            int place = random.nextInt(spoilt.length() + 1);
            int to = Math.min(spoilt.length(), place + random.nextInt(4));
            String filler = random.nextInt(3) == 0 ? "" : FILLERS[random.nextInt(FILLERS.length)];
            spoilt.replace(place, to, random.nextInt(2) == 0 ? " " + filler + " " : filler);
        } else {
            while (spoilt.length() < most + between(-8, 8)) {
                spoilt.insert(spoilt.indexOf(" ") < 0 ? 0 : spoilt.indexOf(" "), ' ');
            }
        }
        return spoilt.substring(0, Math.min(940, spoilt.length()));
    }

    private void tape(String text) {
        log.append("\n\"").append(text).append("\"\n");
        byte[] bytes = text.getBytes(StandardCharsets.ISO_8859_1);
        int[] n = new int[5];
        for (int from = 0; from < bytes.length; from += 20) {
            for (int i = 0; i < 20; i++) {
                n[i / 4] = n[i / 4] << 8 | (from + i < bytes.length ? bytes[from + i] & 255 : 0);
            }
            same("feed", () -> real.feed(n[0], n[1], n[2], n[3], n[4]), () -> model.feed(n));
        }
        same("end(" + bytes.length + ")", () -> real.end(bytes.length) ? 1 : 0, () -> model.end(bytes.length) ? 1 : 0);
    }
}
