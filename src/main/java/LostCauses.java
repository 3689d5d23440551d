import java.util.NoSuchElementException;

/** The bureau of DOC.md that takes what can't be won. */
public final class LostCauses {
    public static final int NONE = -1;

    private static final int MOST_CAUSES = 6;
    private static final int MOST_DEEDS = 6;
    private static final int MOST_CLERKS = 5;
    private static final int MOST_SETS = 64;
    private static final int MOST_TAPE_BYTES = 940;
    private static final int MOST_OFFICE_BYTES = 900;
    private static final int MOST_LEDGER_BYTES = 400;
    private static final int MOST_LEDGER_LINES = 40;
    private static final int MOST_SENTENCE_BYTES = 200;
    private static final int MOST_ONES = 20;
    private static final int MOST_WITHIN = 8;
    private static final int MOST_BELIEVERS = 20;
    private static final int MOST_WEEKS_AT_ONCE = 50;
    private static final int ALL_WEEKS = 200;
    private static final int NEARNESS_OF_LINE = 1000;
    private static final int RISK_SEEDS = 40;
    private static final int RISK_WEEKS = 20;
    private static final int KEPT_FOR_UNDO = 8;
    private static final int WRONG_LIVES = -1000;
    private static final int TOO_FEW_WEEKS = 31;

    private static final int FAULT_TOKEN = 1;
    private static final int FAULT_NUMBER = 2;
    private static final int FAULT_NAME = 3;
    private static final int FAULT_TOO_MANY = 4;

    private static final int OPEN = 0;
    private static final int TAKEN = 1;
    private static final int DROPPED = 2;
    private static final int WON = 3;
    private static final int DEAD = 4;

    // What is kept of a CAUSE; 0 to 7 are the numbers that cause() asks by.
    private static final int FOR = 0;
    private static final int AGAINST = 1;
    private static final int PURSE = 2;
    private static final int BELIEVERS = 3;
    private static final int STATE = 4;
    private static final int HOLDER = 5;
    private static final int DONE = 6;
    private static final int FLAG = 7;
    private static final int DROPPED_IN = 8;
    private static final int CAUSE_CELLS = 9;
    private static final int ASK_NEARNESS = 8;

    // What is kept of a CLERK, by the numbers that clerk() asks by.
    private static final int ZEAL = 0;
    private static final int ZEAL_TOLD = 1;
    private static final int HAS = 2;
    private static final int ACTS = 3;
    private static final int ACTED = 4;
    private static final int BROUGHT = 5;
    private static final int CLERK_CELLS = 6;

    // What is kept of a DEED, by the numbers that deed() asks by.
    private static final int UP = 0;
    private static final int DOWN = 1;
    private static final int COST = 2;
    private static final int DEED_CELLS = 3;

    // What is kept of the bureau, by the numbers that now() asks by.
    private static final int WEEK = 0;
    private static final int COIN = 1;
    private static final int DISGRACES = 2;
    private static final int ASK_DEAD = 3;
    private static final int DEEDS = 4;
    private static final int FIRST_DISGRACE = 5;
    private static final int FLAGS = 6;
    private static final int NOW_CELLS = 7;

    private static final int CLERKS_FROM = MOST_CAUSES * CAUSE_CELLS;
    private static final int NOW_FROM = CLERKS_FROM + MOST_CLERKS * CLERK_CELLS;
    private static final int ROW_CELLS = NOW_FROM + NOW_CELLS;

    private final Tape tape;
    private final Plan plan;
    private final Plan draftPlan;
    private final OfficeReader officeReader;
    private final Desk desk;
    private final Ways ways;
    private final Runs runs;
    private final Ledger ledger;
    private final Sentence sentence;
    private final Sentence draftSentence;
    private final Matching matching;
    private final Image firstImage;
    private final Image secondImage;
    private final int[] before;
    private final int[] booked;
    private int fault;
    private int tried;

    public LostCauses() {
        tape = new Tape();
        plan = new Plan();
        draftPlan = new Plan();
        officeReader = new OfficeReader(tape, draftPlan);
        desk = new Desk(plan);
        ways = new Ways(plan, desk);
        runs = new Runs(plan, desk, ways);
        ledger = new Ledger(tape, plan);
        sentence = new Sentence();
        draftSentence = new Sentence();
        matching = new Matching(plan, desk, ways);
        firstImage = new Image();
        secondImage = new Image();
        before = new int[ROW_CELLS];
        booked = new int[] {NONE, NONE, NONE, NONE};
        fault = 0;
        tried = NONE;
        desk.begin();
        ways.sumUp();
    }

    public int feed(int a, int b, int c, int d, int e) {
        if (tape.length() + 20 > MOST_TAPE_BYTES) {
            return NONE;
        }
        tape.addNumber(a);
        tape.addNumber(b);
        tape.addNumber(c);
        tape.addNumber(d);
        tape.addNumber(e);
        return tape.length();
    }

    public boolean end(int n) {
        return tape.cutTo(n);
    }

    public int office() {
        int lines = officeReader.read();
        tape.empty();
        fault = tape.faultKind();
        if (lines == NONE) {
            return -1 - tape.faultPlace();
        }
        plan.copyFrom(draftPlan);
        ways.sumUp();
        desk.begin();
        sentence.empty();
        desk.forget();
        return lines;
    }

    public int fault() {
        return fault;
    }

    public int cause(int c, int what) throws NoSuchElementException {
        if (!plan.hasCause(c) || what < 0 || what > ASK_NEARNESS) {
            throw new NoSuchElementException("no such cause, or nothing such of it");
        }
        return what == ASK_NEARNESS ? desk.nearness(c) : desk.ofCause(c, what);
    }

    public int odds(int c, int what) throws NoSuchElementException {
        if (!plan.hasCause(c) || what < 0 || what > 1) {
            throw new NoSuchElementException("no such cause, or no such part of its odds");
        }
        int above = desk.ofCause(c, FOR);
        return leastTerm(above, above + desk.ofCause(c, AGAINST), what);
    }

    public int deed(int d, int what) {
        return plan.hasDeed(d) && what >= 0 && what < DEED_CELLS ? plan.ofDeed(d, what) : NONE;
    }

    public int clerk(int k, int what) {
        return plan.hasClerk(k) && what >= 0 && what < CLERK_CELLS ? desk.ofClerk(k, what) : NONE;
    }

    public int now(int what) {
        if (what < 0 || what >= NOW_CELLS) {
            return NONE;
        }
        return what == ASK_DEAD ? desk.deadBits() : desk.ofNow(what);
    }

    public int take(int k, int c) {
        if (!plan.hasClerk(k) || !plan.hasCause(c)) {
            return NONE;
        }
        int why = desk.whyNotTake(k, c);
        if (why == 0) {
            desk.remember();
            desk.doTake(k, c);
        }
        return why;
    }

    public int act(int k, int d) {
        if (!plan.hasClerk(k) || !plan.hasDeed(d)) {
            return NONE;
        }
        int why = desk.whyNotAct(k, d);
        if (why == 0) {
            desk.remember();
            desk.doAct(k, d);
        }
        return why;
    }

    public int drop(int k) {
        if (!plan.hasClerk(k)) {
            return NONE;
        }
        int why = desk.whyNotDrop(k);
        if (why == 0) {
            desk.remember();
            desk.doDrop(k);
        }
        return why;
    }

    public int weeks(int n) {
        if (n < 1 || n > MOST_WEEKS_AT_ONCE) {
            return NONE;
        }
        if (desk.weeksLeft() == 0) {
            return 0;
        }
        desk.remember();
        return desk.passWeeks(n);
    }

    public int undo() {
        return desk.takeBack();
    }

    public int nearest(int c, int n) {
        return plan.hasCause(c) && isDeedNumber(n) ? ways.nearestSet(c, n) : NONE;
    }

    public int near(int c, int set) {
        return plan.hasCause(c) && ways.canStillDo(c, set) ? ways.nearnessBehind(c, set) : NONE;
    }

    public int orders(int c, int set) {
        return plan.hasCause(c) && ways.canStillDo(c, set) ? ways.ordersOf(c, set) : NONE;
    }

    public int ways(int c, int n) {
        return plan.hasCause(c) && isDeedNumber(n) ? ways.howMany(c, n) : NONE;
    }

    public int value(int k, int c) throws NoSuchElementException {
        if (!plan.hasClerk(k) || !plan.hasCause(c)) {
            throw new NoSuchElementException("no such clerk, or no such cause");
        }
        return ways.valueFor(k, c);
    }

    public int match() {
        return matching.matchAll();
    }

    public int matched(int k) {
        return matching.causeOf(k);
    }

    public int rests(int k) {
        return matching.pairAtRest(k);
    }

    public int parts(int c) {
        return plan.hasRumour(c) ? ways.partingSet(c) : NONE;
    }

    public int plot(int c) {
        return plan.hasCause(c) ? ways.plotSet(c) : NONE;
    }

    public int fair(int c, int what) throws NoSuchElementException {
        if (!plan.hasCause(c) || what < 0 || what > 1 || desk.ofCause(c, FOR) == 0) {
            throw new NoSuchElementException("no such cause, no such part of the bet, or no fair bet");
        }
        return leastTerm(desk.ofCause(c, AGAINST), desk.ofCause(c, FOR), what);
    }

    public int school(int s, int n) {
        if (s < 0 || s > 2 || n < 1 || n > MOST_WEEKS_AT_ONCE) {
            return NONE;
        }
        return runs.coinBySchool(s, n);
    }

    public int best(int n) {
        if (n < 1 || n > MOST_WEEKS_AT_ONCE) {
            return NONE;
        }
        int first = runs.coinBySchool(0, n);
        int second = runs.coinBySchool(1, n);
        int third = runs.coinBySchool(2, n);
        if (first >= second && first >= third) {
            return 0;
        }
        return second >= third ? 1 : 2;
    }

    public int flags(int c) {
        boolean asTold = tape.length() == 2;
        int pro = tape.at(0);
        int contra = tape.at(1);
        tape.empty();
        if (!asTold || !plan.hasCause(c)) {
            return NONE;
        }
        int sets = ways.setsMaking(c, pro, contra);
        if (sets > 0) {
            tried = ways.commonDeeds(c, pro, contra);
        }
        return sets;
    }

    public int tried() {
        return tried;
    }

    public int pay(int c) {
        return plan.hasCause(c) ? desk.payFor(c) : NONE;
    }

    public int dies(int c) {
        if (!plan.hasCause(c)) {
            return NONE;
        }
        int state = desk.ofCause(c, STATE);
        if (state == DEAD) {
            return 0;
        }
        // An open or dropped CAUSE loses one BELIEVER a WEEK, and the last one is its end.
        return state == OPEN || state == DROPPED ? desk.ofCause(c, BELIEVERS) : NONE;
    }

    public int saddest() {
        int found = NONE;
        for (int c = 0; c < plan.causes(); c++) {
            int state = desk.ofCause(c, STATE);
            if (state == WON || state == DEAD || !desk.isSafe(c)) {
                continue;
            }
            if (found == NONE || desk.nearness(c) > desk.nearness(found)) {
                found = c;
            }
        }
        return found;
    }

    public int drawn(int n, int seed) {
        if (n < 1 || n > MOST_WEEKS_AT_ONCE || plan.clerks() == 0) {
            return NONE;
        }
        if (desk.weeksLeft() == 0) {
            return 0;
        }
        desk.remember();
        return runs.passDrawn(n, seed);
    }

    public int risk(int n, int seed) {
        if (n < 1 || n > RISK_SEEDS || plan.clerks() == 0) {
            return NONE;
        }
        desk.saveTo(before);
        int disgracesBefore = desk.ofNow(DISGRACES);
        int disgraced = 0;
        for (int i = 0; i < n; i++) {
            runs.passDrawn(RISK_WEEKS, seed + i);
            if (desk.ofNow(DISGRACES) > disgracesBefore) {
                disgraced++;
            }
            desk.loadFrom(before);
        }
        return disgraced;
    }

    public int ledger(int lives) {
        if (lives != 0 && lives != 1) {
            return WRONG_LIVES;
        }
        boolean isRead = ledger.read();
        tape.empty();
        fault = tape.faultKind();
        if (!isRead) {
            return -2 - tape.faultPlace();
        }
        desk.saveTo(before);
        int disgracesBefore = desk.ofNow(DISGRACES);
        int lived = ledger.live(desk);
        booked[0] = ledger.whyWrong();
        booked[1] = lived;
        booked[2] = desk.ofNow(COIN);
        booked[3] = desk.ofNow(DISGRACES) - disgracesBefore;
        if (lives == 0) {
            desk.loadFrom(before);
        } else if (lived > 0) {
            desk.rememberRow(before);
        }
        return lived < ledger.size() ? lived : NONE;
    }

    public int booked(int what) {
        return what >= 0 && what < booked.length ? booked[what] : NONE;
    }

    public int sentence() {
        int ones = draftSentence.read(tape, plan);
        tape.empty();
        fault = tape.faultKind();
        if (ones == NONE) {
            return -1 - tape.faultPlace();
        }
        sentence.copyFrom(draftSentence);
        return ones;
    }

    public int said(int k) {
        if (sentence.isEmpty() || k < NONE) {
            return NONE;
        }
        int found = 0;
        for (int c = 0; c < plan.causes(); c++) {
            if (sentence.holdsOf(desk, c)) {
                if (found == k) {
                    return c;
                }
                found++;
            }
        }
        return k == NONE ? found : NONE;
    }

    public boolean image(int k) {
        if (k != 0 && k != 1) {
            return false;
        }
        imageAt(k).keep(plan, desk, sentence);
        return true;
    }

    public boolean restore(int k) {
        if (k != 0 && k != 1 || !imageAt(k).isKept()) {
            return false;
        }
        imageAt(k).giveBack(plan, desk, sentence);
        ways.sumUp();
        desk.forget();
        return true;
    }

    public int count(int what) {
        switch (what) {
            case 0: return plan.causes();
            case 1: return plan.deeds();
            case 2: return plan.clerks();
            case 3: return plan.rumours();
            case 4: return plan.lineAbove();
            case 5: return plan.lineBelow();
            case 6: return tape.length();
            default: return NONE;
        }
    }

    private Image imageAt(int k) {
        return k == 0 ? firstImage : secondImage;
    }

    private static boolean isDeedNumber(int n) {
        return n >= 0 && n <= MOST_DEEDS;
    }

    /** The part (0 above, 1 below) of a fraction in least terms; nothing above is told as 0 by 1. */
    private static int leastTerm(int above, int below, int part) {
        int divisor = greatestDivisor(above, below);
        int chosen = part == 0 ? above : below;
        return divisor > 0 ? chosen / divisor : chosen;
    }

    private static int greatestDivisor(int a, int b) {
        int larger = a;
        int smaller = b;
        for (int step = 0; step < 64 && smaller > 0; step++) {
            int rest = larger % smaller;
            larger = smaller;
            smaller = rest;
        }
        return larger;
    }

    /** The words that no NAME may be; a word's letters are packed as the Tape packs them. */
    private enum Word {
        LINE("line"), COIN("coin"), CAUSE("cause"), RUMOUR("rumour"), DEED("deed"), CLERK("clerk"),
        TAKES("takes"), DOES("does"), DROPS("drops"), WEEK("week"),
        OR("or"), AND("and"), NOT("not"),
        OPEN("open"), TAKEN("taken"), DROPPED("dropped"), WON("won"), DEAD("dead"),
        HAD("had"), NEAR("near"), PURSE("purse"), BELIEF("belief"), NUMBER("number");

        private static final Word[] ALL = values();

        private final long letters;

        Word(String text) {
            long packed = 0;
            for (int i = 0; i < text.length(); i++) {
                packed = packed * 32 + (text.charAt(i) - 'a' + 1);
            }
            letters = packed;
        }

        long letters() {
            return letters;
        }

        static boolean isReserved(long letters) {
            for (int i = 0; i < ALL.length; i++) {
                if (ALL[i].letters == letters) {
                    return true;
                }
            }
            return false;
        }
    }

    /** The tape, read TOKEN by TOKEN; it keeps the first FAULT of the latest reading. */
    private static final class Tape {
        private static final int END = 0;
        private static final int WORD = 1;
        private static final int NUMBER = 2;
        private static final int NO_TOKEN = 3;
        private static final int MOST_LETTERS = 7;
        private static final int MOST_DIGITS = 3;

        private final byte[] bytes = new byte[MOST_TAPE_BYTES];
        private int length = 0;
        private int mostBytes = 0;
        private int next = 0;
        private int place = 0;
        // One of the four kinds above, or the sign itself.
        private int kind = END;
        private long letters = 0;
        private int number = 0;
        private int taken = 0;
        private int faultKind = 0;
        private int faultPlace = 0;

        int length() {
            return length;
        }

        int at(int index) {
            return index >= 0 && index < length ? bytes[index] & 255 : 0;
        }

        void empty() {
            length = 0;
        }

        boolean cutTo(int n) {
            if (n < 0 || n > length) {
                return false;
            }
            length = n;
            return true;
        }

        void addNumber(int value) {
            addByte(value >>> 24);
            addByte(value >>> 16);
            addByte(value >>> 8);
            addByte(value);
        }

        private void addByte(int value) {
            if (length < bytes.length) {
                bytes[length] = (byte) value;
                length++;
            }
        }

        void begin(int mostBytesTold) {
            mostBytes = mostBytesTold;
            next = 0;
            faultKind = 0;
            faultPlace = 0;
            advance();
        }

        int faultKind() {
            return faultKind;
        }

        int faultPlace() {
            return faultPlace;
        }

        /** A FAULT at the TOKEN that stands here; false, so that readers can answer with it. */
        boolean fail(int sort) {
            if (faultKind == 0) {
                faultKind = sort;
                faultPlace = place;
            }
            return false;
        }

        boolean isAtEnd() {
            return kind == END;
        }

        boolean isSign(int sign) {
            return kind == sign;
        }

        boolean isWord(Word word) {
            return kind == WORD && letters == word.letters();
        }

        boolean isName() {
            return kind == WORD && !Word.isReserved(letters);
        }

        long letters() {
            return letters;
        }

        /** The NUMBER that takeNumber() took last. */
        int taken() {
            return taken;
        }

        boolean takeWord(Word word) {
            if (!isWord(word)) {
                return false;
            }
            advance();
            return true;
        }

        boolean takeSign(int sign) {
            if (kind != sign) {
                return fail(FAULT_TOKEN);
            }
            advance();
            return true;
        }

        boolean takeNumber(int least, int most) {
            if (kind != NUMBER) {
                return fail(FAULT_TOKEN);
            }
            if (number < least || number > most) {
                return fail(FAULT_NUMBER);
            }
            taken = number;
            advance();
            return true;
        }

        void advance() {
            while (next < length && (at(next) == 32 || at(next) == 10)) {
                next++;
            }
            if (next >= length || next >= mostBytes) {
                place = Math.min(length, mostBytes);
                kind = length > mostBytes ? NO_TOKEN : END;
                return;
            }
            place = next;
            int sign = at(next);
            if (sign >= 'a' && sign <= 'z' || sign >= '0' && sign <= '9') {
                readRun();
                return;
            }
            next++;
            kind = isTokenSign(sign) ? sign : NO_TOKEN;
        }

        private void readRun() {
            int lettersRead = 0;
            int digitsRead = 0;
            letters = 0;
            number = 0;
            for (; next < length && next < bytes.length; next++) {
                int sign = bytes[next];
                if (sign >= 'a' && sign <= 'z') {
                    lettersRead++;
                    letters = letters * 32 + (sign - 'a' + 1);
                } else if (sign >= '0' && sign <= '9') {
                    digitsRead++;
                    number = number * 10 + (sign - '0');
                } else {
                    break;
                }
            }
            if (digitsRead == 0) {
                kind = lettersRead <= MOST_LETTERS ? WORD : NO_TOKEN;
            } else {
                kind = lettersRead == 0 && digitsRead <= MOST_DIGITS ? NUMBER : NO_TOKEN;
            }
        }

        private static boolean isTokenSign(int sign) {
            return sign == ';' || sign == '<' || sign == '=' || sign == '>'
                || sign == '(' || sign == ')' || sign == '.';
        }
    }

    /** An OFFICE as it was told. */
    private static final class Plan {
        private int lineAbove = 1;
        private int lineBelow = 9;
        private int coin = 50;
        private int causes = 0;
        private int deeds = 0;
        private int clerks = 0;
        private final long[] causeNames = new long[MOST_CAUSES];
        private final long[] deedNames = new long[MOST_DEEDS];
        private final long[] clerkNames = new long[MOST_CLERKS];
        // FOR, AGAINST, PURSE, BELIEVERS of each CAUSE.
        private final int[] causeNumbers = new int[MOST_CAUSES * 4];
        // FOR, AGAINST of each CAUSE's rumour; AGAINST is 0 where there is none.
        private final int[] rumourNumbers = new int[MOST_CAUSES * 2];
        private final int[] deedNumbers = new int[MOST_DEEDS * DEED_CELLS];
        private final int[] zeals = new int[MOST_CLERKS];

        void empty() {
            lineAbove = 1;
            lineBelow = 9;
            coin = 50;
            causes = 0;
            deeds = 0;
            clerks = 0;
            for (int i = 0; i < rumourNumbers.length; i++) {
                rumourNumbers[i] = 0;
            }
        }

        void copyFrom(Plan other) {
            lineAbove = other.lineAbove;
            lineBelow = other.lineBelow;
            coin = other.coin;
            causes = other.causes;
            deeds = other.deeds;
            clerks = other.clerks;
            System.arraycopy(other.causeNames, 0, causeNames, 0, MOST_CAUSES);
            System.arraycopy(other.deedNames, 0, deedNames, 0, MOST_DEEDS);
            System.arraycopy(other.clerkNames, 0, clerkNames, 0, MOST_CLERKS);
            System.arraycopy(other.causeNumbers, 0, causeNumbers, 0, causeNumbers.length);
            System.arraycopy(other.rumourNumbers, 0, rumourNumbers, 0, rumourNumbers.length);
            System.arraycopy(other.deedNumbers, 0, deedNumbers, 0, deedNumbers.length);
            System.arraycopy(other.zeals, 0, zeals, 0, MOST_CLERKS);
        }

        int lineAbove() {
            return lineAbove;
        }

        int lineBelow() {
            return lineBelow;
        }

        int coin() {
            return coin;
        }

        int causes() {
            return causes;
        }

        int deeds() {
            return deeds;
        }

        int clerks() {
            return clerks;
        }

        int rumours() {
            int told = 0;
            for (int c = 0; c < causes; c++) {
                if (hasRumour(c)) {
                    told++;
                }
            }
            return told;
        }

        boolean hasCause(int c) {
            return c >= 0 && c < causes;
        }

        boolean hasDeed(int d) {
            return d >= 0 && d < deeds;
        }

        boolean hasClerk(int k) {
            return k >= 0 && k < clerks;
        }

        boolean hasRumour(int c) {
            return hasCause(c) && rumourNumbers[c * 2 + AGAINST] > 0;
        }

        int ofCause(int c, int what) {
            return causeNumbers[c * 4 + what];
        }

        int ofRumour(int c, int what) {
            return rumourNumbers[c * 2 + what];
        }

        int ofDeed(int d, int what) {
            return deedNumbers[d * DEED_CELLS + what];
        }

        int zealOf(int k) {
            return zeals[k];
        }

        /** Whether ODDS of these are below the line, told without a division. */
        boolean isSafe(int pro, int contra) {
            return pro * lineBelow < lineAbove * (pro + contra);
        }

        int nearness(int pro, int contra) {
            int below = (pro + contra) * lineAbove;
            return below > 0 ? NEARNESS_OF_LINE * pro * lineBelow / below : 0;
        }

        void tellLine(int above, int below) {
            lineAbove = above;
            lineBelow = below;
        }

        void tellCoin(int told) {
            coin = told;
        }

        void tellRumour(int c, int what, int number) {
            rumourNumbers[c * 2 + what] = number;
        }

        boolean isToldName(long name) {
            return causeNamed(name) != NONE || deedNamed(name) != NONE || clerkNamed(name) != NONE;
        }

        int causeNamed(long name) {
            return placeOf(causeNames, causes, name);
        }

        int deedNamed(long name) {
            return placeOf(deedNames, deeds, name);
        }

        int clerkNamed(long name) {
            return placeOf(clerkNames, clerks, name);
        }

        /** Adds a CAUSE whose numbers are told after its NAME. */
        void addCause(long name) {
            if (causes < MOST_CAUSES) {
                causeNames[causes] = name;
                causes++;
            }
        }

        void addDeed(long name) {
            if (deeds < MOST_DEEDS) {
                deedNames[deeds] = name;
                deeds++;
            }
        }

        void addClerk(long name) {
            if (clerks < MOST_CLERKS) {
                clerkNames[clerks] = name;
                clerks++;
            }
        }

        void tellLastCause(int what, int number) {
            if (causes > 0) {
                causeNumbers[(causes - 1) * 4 + what] = number;
            }
        }

        void tellLastDeed(int what, int number) {
            if (deeds > 0) {
                deedNumbers[(deeds - 1) * DEED_CELLS + what] = number;
            }
        }

        void tellLastClerk(int zeal) {
            if (clerks > 0) {
                zeals[clerks - 1] = zeal;
            }
        }

        private static int placeOf(long[] names, int size, long name) {
            for (int i = 0; i < size; i++) {
                if (names[i] == name) {
                    return i;
                }
            }
            return NONE;
        }
    }

    /** Reads the tape as an OFFICE into a draft, so that the OFFICE of now stays with a FAULT. */
    private static final class OfficeReader {
        private final Tape tape;
        private final Plan draft;
        private boolean isLineTold;
        private boolean isCoinTold;

        OfficeReader(Tape tape, Plan draft) {
            this.tape = tape;
            this.draft = draft;
        }

        /** How many LINES; NONE: the tape has a FAULT. */
        int read() {
            draft.empty();
            isLineTold = false;
            isCoinTold = false;
            tape.begin(MOST_OFFICE_BYTES);
            for (int lines = 0; lines < MOST_OFFICE_BYTES; lines++) {
                if (tape.isAtEnd()) {
                    return lines;
                }
                if (!readLine() || !tape.takeSign(';')) {
                    return NONE;
                }
            }
            return NONE;
        }

        private boolean readLine() {
            if (tape.isWord(Word.LINE)) {
                return readBounds();
            }
            if (tape.isWord(Word.COIN)) {
                return readCoin();
            }
            if (tape.isWord(Word.CAUSE)) {
                return readCause();
            }
            if (tape.isWord(Word.RUMOUR)) {
                return readRumour();
            }
            if (tape.isWord(Word.DEED)) {
                return readDeed();
            }
            if (tape.isWord(Word.CLERK)) {
                return readClerk();
            }
            return tape.fail(FAULT_TOKEN);
        }

        private boolean readBounds() {
            if (isLineTold) {
                return tape.fail(FAULT_NAME);
            }
            isLineTold = true;
            tape.advance();
            if (!tape.takeNumber(1, 98)) {
                return false;
            }
            int above = tape.taken();
            if (!tape.takeNumber(above + 1, 99)) {
                return false;
            }
            draft.tellLine(above, tape.taken());
            return true;
        }

        private boolean readCoin() {
            if (isCoinTold) {
                return tape.fail(FAULT_NAME);
            }
            isCoinTold = true;
            tape.advance();
            if (!tape.takeNumber(0, 999)) {
                return false;
            }
            draft.tellCoin(tape.taken());
            return true;
        }

        private boolean readCause() {
            if (draft.causes() >= MOST_CAUSES) {
                return tape.fail(FAULT_TOO_MANY);
            }
            tape.advance();
            if (!isNewName()) {
                return false;
            }
            draft.addCause(tape.letters());
            tape.advance();
            for (int what = FOR; what <= BELIEVERS; what++) {
                if (!tape.takeNumber(what == FOR ? 0 : 1, what == BELIEVERS ? MOST_BELIEVERS : 99)) {
                    return false;
                }
                draft.tellLastCause(what, tape.taken());
            }
            return true;
        }

        private boolean readRumour() {
            tape.advance();
            if (!tape.isName()) {
                return tape.fail(FAULT_TOKEN);
            }
            int c = draft.causeNamed(tape.letters());
            if (c == NONE || draft.hasRumour(c)) {
                return tape.fail(FAULT_NAME);
            }
            tape.advance();
            for (int what = FOR; what <= AGAINST; what++) {
                if (!tape.takeNumber(what == FOR ? 0 : 1, 99)) {
                    return false;
                }
                draft.tellRumour(c, what, tape.taken());
            }
            return true;
        }

        private boolean readDeed() {
            if (draft.deeds() >= MOST_DEEDS) {
                return tape.fail(FAULT_TOO_MANY);
            }
            tape.advance();
            if (!isNewName()) {
                return false;
            }
            draft.addDeed(tape.letters());
            tape.advance();
            for (int what = UP; what <= COST; what++) {
                if (!tape.takeNumber(0, 20)) {
                    return false;
                }
                draft.tellLastDeed(what, tape.taken());
            }
            return true;
        }

        private boolean readClerk() {
            if (draft.clerks() >= MOST_CLERKS) {
                return tape.fail(FAULT_TOO_MANY);
            }
            tape.advance();
            if (!isNewName()) {
                return false;
            }
            draft.addClerk(tape.letters());
            tape.advance();
            if (!tape.takeNumber(1, 9)) {
                return false;
            }
            draft.tellLastClerk(tape.taken());
            return true;
        }

        private boolean isNewName() {
            if (!tape.isName()) {
                return tape.fail(FAULT_TOKEN);
            }
            return !draft.isToldName(tape.letters()) || tape.fail(FAULT_NAME);
        }
    }

    /** All that is so: the CAUSES, the CLERKS and the bureau, in one row that is quick to copy. */
    private static final class Desk {
        private static final int WEEKS_TILL_OPEN = 4;

        private final Plan plan;
        private final int[] row = new int[ROW_CELLS];
        // What was so ahead of the latest acts, in a ring.
        private final int[][] past = new int[KEPT_FOR_UNDO][ROW_CELLS];
        private int pastFrom = 0;
        private int pastSize = 0;

        Desk(Plan plan) {
            this.plan = plan;
        }

        void begin() {
            for (int i = 0; i < row.length; i++) {
                row[i] = 0;
            }
            for (int c = 0; c < plan.causes(); c++) {
                for (int what = FOR; what <= BELIEVERS; what++) {
                    setCause(c, what, plan.ofCause(c, what));
                }
                setCause(c, STATE, OPEN);
                setCause(c, HOLDER, NONE);
                setCause(c, FLAG, NONE);
            }
            for (int k = 0; k < plan.clerks(); k++) {
                setClerk(k, ZEAL, plan.zealOf(k));
                setClerk(k, ZEAL_TOLD, plan.zealOf(k));
                setClerk(k, HAS, NONE);
            }
            setNow(COIN, plan.coin());
            setNow(FIRST_DISGRACE, NONE);
        }

        void saveTo(int[] kept) {
            if (kept.length == row.length) {
                System.arraycopy(row, 0, kept, 0, row.length);
            }
        }

        void loadFrom(int[] kept) {
            if (kept.length == row.length) {
                System.arraycopy(kept, 0, row, 0, row.length);
            }
        }

        void forget() {
            pastSize = 0;
        }

        void remember() {
            rememberRow(row);
        }

        void rememberRow(int[] kept) {
            if (pastSize == KEPT_FOR_UNDO) {
                pastFrom = (pastFrom + 1) % KEPT_FOR_UNDO;
                pastSize--;
            }
            if (kept.length == row.length) {
                System.arraycopy(kept, 0, past[(pastFrom + pastSize) % KEPT_FOR_UNDO], 0, row.length);
                pastSize++;
            }
        }

        /** How many more can be taken back; NONE: there was nothing to take back. */
        int takeBack() {
            if (pastSize == 0) {
                return NONE;
            }
            pastSize--;
            loadFrom(past[(pastFrom + pastSize) % KEPT_FOR_UNDO]);
            return pastSize;
        }

        int ofCause(int c, int what) {
            return row[c * CAUSE_CELLS + what];
        }

        int ofClerk(int k, int what) {
            return row[CLERKS_FROM + k * CLERK_CELLS + what];
        }

        int ofNow(int what) {
            return row[NOW_FROM + what];
        }

        int weeksLeft() {
            return ALL_WEEKS - ofNow(WEEK);
        }

        boolean isFree(int k) {
            return ofClerk(k, HAS) == NONE;
        }

        boolean isSafe(int c) {
            return plan.isSafe(ofCause(c, FOR), ofCause(c, AGAINST));
        }

        boolean isOpenAndSafe(int c) {
            return ofCause(c, STATE) == OPEN && isSafe(c);
        }

        int nearness(int c) {
            return plan.nearness(ofCause(c, FOR), ofCause(c, AGAINST));
        }

        int payFor(int c) {
            int near = nearness(c);
            return near < NEARNESS_OF_LINE ? ofCause(c, PURSE) * near / NEARNESS_OF_LINE : 0;
        }

        int deadBits() {
            int bits = 0;
            for (int c = 0; c < plan.causes(); c++) {
                if (ofCause(c, STATE) == DEAD) {
                    bits |= 1 << c;
                }
            }
            return bits;
        }

        int whyNotTake(int k, int c) {
            if (!isFree(k)) {
                return 1;
            }
            if (ofCause(c, STATE) != OPEN) {
                return 2;
            }
            if (!isSafe(c)) {
                return 3;
            }
            return weeksLeft() == 0 ? 4 : 0;
        }

        void doTake(int k, int c) {
            setCause(c, STATE, TAKEN);
            setCause(c, HOLDER, k);
            setClerk(k, HAS, c);
        }

        int whyNotAct(int k, int d) {
            int c = ofClerk(k, HAS);
            if (c == NONE) {
                return 1;
            }
            if ((ofCause(c, DONE) >> d & 1) != 0) {
                return 2;
            }
            if (ofClerk(k, ZEAL) == 0) {
                return 3;
            }
            if (ofClerk(k, ACTED) != 0) {
                return 4;
            }
            return plan.ofDeed(d, COST) > ofNow(COIN) ? 5 : 0;
        }

        void doAct(int k, int d) {
            int c = ofClerk(k, HAS);
            if (c == NONE) {
                return;
            }
            addCause(c, FOR, plan.ofDeed(d, UP));
            addCause(c, AGAINST, plan.ofDeed(d, DOWN));
            setCause(c, DONE, ofCause(c, DONE) | 1 << d);
            addClerk(k, ZEAL, -1);
            addClerk(k, ACTS, 1);
            setClerk(k, ACTED, 1);
            addNow(COIN, -plan.ofDeed(d, COST));
            addNow(DEEDS, 1);
        }

        int whyNotDrop(int k) {
            if (isFree(k)) {
                return 1;
            }
            return ofNow(WEEK) % 5 == 4 ? 2 : 0;
        }

        void doDrop(int k) {
            int c = ofClerk(k, HAS);
            if (c == NONE) {
                return;
            }
            int paid = payFor(c);
            addNow(COIN, paid);
            addClerk(k, BROUGHT, paid);
            setClerk(k, HAS, NONE);
            setCause(c, STATE, DROPPED);
            setCause(c, HOLDER, NONE);
            setCause(c, FLAG, nearness(c));
            setCause(c, DROPPED_IN, ofNow(WEEK));
            addNow(FLAGS, 1);
        }

        /** Lets as many of n WEEKS go by as are left: how many did. */
        int passWeeks(int n) {
            int passing = Math.min(n, weeksLeft());
            for (int i = 0; i < passing; i++) {
                passWeek();
            }
            return passing;
        }

        void passWeek() {
            for (int k = 0; k < plan.clerks(); k++) {
                if (ofClerk(k, ACTED) == 0 && ofClerk(k, ZEAL) < ofClerk(k, ZEAL_TOLD)) {
                    addClerk(k, ZEAL, 1);
                }
                setClerk(k, ACTED, 0);
            }
            for (int c = 0; c < plan.causes(); c++) {
                int state = ofCause(c, STATE);
                if (state == TAKEN) {
                    passTaken(c);
                } else if (state == OPEN || state == DROPPED) {
                    passLeftAlone(c);
                }
            }
            addNow(WEEK, 1);
        }

        private void passTaken(int c) {
            if (isSafe(c)) {
                setCause(c, BELIEVERS, Math.min(ofCause(c, BELIEVERS) + 1, MOST_BELIEVERS));
                return;
            }
            int k = ofCause(c, HOLDER);
            if (plan.hasClerk(k)) {
                setClerk(k, HAS, NONE);
            }
            setCause(c, STATE, WON);
            setCause(c, HOLDER, NONE);
            setNow(COIN, 0);
            addNow(DISGRACES, 1);
            if (ofNow(FIRST_DISGRACE) == NONE) {
                setNow(FIRST_DISGRACE, ofNow(WEEK));
            }
        }

        private void passLeftAlone(int c) {
            addCause(c, BELIEVERS, -1);
            if (ofCause(c, BELIEVERS) <= 0) {
                setCause(c, STATE, DEAD);
                return;
            }
            boolean isTimeOver = ofNow(WEEK) >= ofCause(c, DROPPED_IN) + WEEKS_TILL_OPEN;
            if (ofCause(c, STATE) == DROPPED && isTimeOver) {
                setCause(c, STATE, OPEN);
            }
        }

        private void setCause(int c, int what, int number) {
            row[c * CAUSE_CELLS + what] = number;
        }

        private void addCause(int c, int what, int number) {
            row[c * CAUSE_CELLS + what] += number;
        }

        private void setClerk(int k, int what, int number) {
            row[CLERKS_FROM + k * CLERK_CELLS + what] = number;
        }

        private void addClerk(int k, int what, int number) {
            row[CLERKS_FROM + k * CLERK_CELLS + what] += number;
        }

        private void setNow(int what, int number) {
            row[NOW_FROM + what] = number;
        }

        private void addNow(int what, int number) {
            row[NOW_FROM + what] += number;
        }
    }

    /** What sets of DEEDS, as bits, do to a CAUSE. */
    private static final class Ways {
        private final Plan plan;
        private final Desk desk;
        // What each set of DEEDS comes to in all.
        private final int[] ups = new int[MOST_SETS];
        private final int[] downs = new int[MOST_SETS];
        private final int[] costs = new int[MOST_SETS];
        private final int[] orders = new int[MOST_SETS];
        private int sets = 1;

        Ways(Plan plan, Desk desk) {
            this.plan = plan;
            this.desk = desk;
        }

        /** Must be called whenever the DEEDS of the plan are others. */
        void sumUp() {
            sets = 1 << plan.deeds();
            for (int d = 0; d < plan.deeds(); d++) {
                int bit = 1 << d;
                for (int set = 0; set < bit; set++) {
                    ups[set | bit] = ups[set] + plan.ofDeed(d, UP);
                    downs[set | bit] = downs[set] + plan.ofDeed(d, DOWN);
                    costs[set | bit] = costs[set] + plan.ofDeed(d, COST);
                }
            }
        }

        /** Whether these bits are DEEDS that were not done for it yet. */
        boolean canStillDo(int c, int set) {
            return set >= 0 && set < sets && (set & desk.ofCause(c, DONE)) == 0;
        }

        int nearnessBehind(int c, int set) {
            return plan.nearness(proBehind(c, set), contraBehind(c, set));
        }

        int ordersOf(int c, int set) {
            countOrders(c);
            return orders[set];
        }

        int howMany(int c, int n) {
            countOrders(c);
            int found = 0;
            for (int set = 0; set < sets; set++) {
                if (orders[set] > 0 && Integer.bitCount(set) <= n) {
                    found++;
                }
            }
            return found;
        }

        int nearestSet(int c, int n) {
            countOrders(c);
            int found = NONE;
            for (int set = 0; set < sets; set++) {
                if (orders[set] > 0 && Integer.bitCount(set) <= n
                        && (found == NONE || isNearer(c, set, found))) {
                    found = set;
                }
            }
            return found;
        }

        int valueFor(int k, int c) {
            if (!desk.isOpenAndSafe(c)) {
                return 0;
            }
            int set = nearestSet(c, desk.ofClerk(k, ZEAL));
            if (set == NONE) {
                return 0;
            }
            return desk.ofCause(c, PURSE) * nearnessBehind(c, set) / NEARNESS_OF_LINE - costs[set];
        }

        int partingSet(int c) {
            int found = NONE;
            int done = desk.ofCause(c, DONE);
            for (int set = 0; set < sets; set++) {
                if (!canStillDo(c, set) || found != NONE && isNotSmaller(set, found)) {
                    continue;
                }
                int pro = plan.ofRumour(c, FOR) + ups[done] + ups[set];
                int contra = plan.ofRumour(c, AGAINST) + downs[done] + downs[set];
                if (plan.isSafe(pro, contra) != isSafeBehind(c, set)) {
                    found = set;
                }
            }
            return found;
        }

        int plotSet(int c) {
            int found = NONE;
            for (int set = 0; set < sets; set++) {
                if (canStillDo(c, set) && !isSafeBehind(c, set)
                        && (found == NONE || isLighter(set, found))) {
                    found = set;
                }
            }
            return found;
        }

        int setsMaking(int c, int pro, int contra) {
            int found = 0;
            for (int set = 0; set < sets; set++) {
                if (isMaking(c, set, pro, contra)) {
                    found++;
                }
            }
            return found;
        }

        int commonDeeds(int c, int pro, int contra) {
            int common = sets - 1;
            for (int set = 0; set < sets; set++) {
                if (isMaking(c, set, pro, contra)) {
                    common &= set;
                }
            }
            return common;
        }

        private int proBehind(int c, int set) {
            return desk.ofCause(c, FOR) + ups[set];
        }

        private int contraBehind(int c, int set) {
            return desk.ofCause(c, AGAINST) + downs[set];
        }

        private boolean isSafeBehind(int c, int set) {
            return plan.isSafe(proBehind(c, set), contraBehind(c, set));
        }

        /** Whether the set of DEEDS makes so what the CAUSE was at first. */
        private boolean isMaking(int c, int set, int pro, int contra) {
            return plan.ofCause(c, FOR) + ups[set] == pro
                && plan.ofCause(c, AGAINST) + downs[set] == contra;
        }

        /** Fills in ORDERS of every set; a smaller set always comes ahead of the ones that hold it. */
        private void countOrders(int c) {
            int pro = desk.ofCause(c, FOR);
            int contra = desk.ofCause(c, AGAINST);
            int done = desk.ofCause(c, DONE);
            for (int set = 0; set < sets; set++) {
                boolean isWay = (set & done) == 0 && plan.isSafe(pro + ups[set], contra + downs[set]);
                orders[set] = isWay ? sumOfOrders(set) : 0;
            }
        }

        /** In how many orders a set can be done, by the DEED that is the last of it. */
        private int sumOfOrders(int set) {
            int sum = set == 0 ? 1 : 0;
            for (int d = 0; d < MOST_DEEDS; d++) {
                int bit = 1 << d;
                if ((set & bit) != 0) {
                    sum += orders[set ^ bit];
                }
            }
            return sum;
        }

        private boolean isNearer(int c, int set, int other) {
            int left = proBehind(c, set) * (proBehind(c, other) + contraBehind(c, other));
            int right = proBehind(c, other) * (proBehind(c, set) + contraBehind(c, set));
            return left != right ? left > right : costs[set] < costs[other];
        }

        private boolean isNotSmaller(int set, int other) {
            return Integer.bitCount(set) >= Integer.bitCount(other);
        }

        private boolean isLighter(int set, int other) {
            int left = Integer.bitCount(set);
            int right = Integer.bitCount(other);
            return left != right ? left < right : costs[set] < costs[other];
        }
    }

    /** CLERKS matched with CAUSES, and pairs at REST against a RIVAL. */
    private static final class Matching {
        private final Plan plan;
        private final Desk desk;
        private final Ways ways;
        private final int[] values = new int[MOST_CLERKS * MOST_CAUSES];
        private final int[] picks = new int[MOST_CLERKS];
        private final int[] chosen = new int[] {NONE, NONE, NONE, NONE, NONE};
        private int most;

        Matching(Plan plan, Desk desk, Ways ways) {
            this.plan = plan;
            this.desk = desk;
            this.ways = ways;
        }

        /** By the CLERKS of the latest match, who need not be those of the OFFICE of now. */
        int causeOf(int k) {
            return k >= 0 && k < chosen.length ? chosen[k] : NONE;
        }

        int matchAll() {
            for (int k = 0; k < MOST_CLERKS; k++) {
                picks[k] = NONE;
                chosen[k] = NONE;
                if (k < plan.clerks()) {
                    fillValues(k);
                }
            }
            most = 0;
            pickFrom(0, 0, 0);
            return most;
        }

        /** How many pairs (k NONE), or the k-th; NONE: none such. */
        int pairAtRest(int k) {
            if (plan.clerks() == 0 || k < NONE) {
                return NONE;
            }
            fillValues(0);
            int found = 0;
            for (int mine = 0; mine < plan.causes(); mine++) {
                for (int other = 0; other < plan.causes(); other++) {
                    if (!isAtRest(mine, other)) {
                        continue;
                    }
                    if (found == k) {
                        return 10 * mine + other;
                    }
                    found++;
                }
            }
            return k == NONE ? found : NONE;
        }

        private void fillValues(int k) {
            for (int c = 0; c < plan.causes(); c++) {
                values[k * MOST_CAUSES + c] = ways.valueFor(k, c);
            }
        }

        /**
         * Picks for CLERK k and all behind him in the order that the document tells, so that the
         * first of like ones is found first. A VALUE of 0 or less is never picked: nobody is as good
         * and comes ahead of it.
         */
        private void pickFrom(int k, int used, int sum) {
            if (k >= plan.clerks() || k >= MOST_CLERKS) {
                keepIfMore(sum);
                return;
            }
            picks[k] = NONE;
            pickFrom(k + 1, used, sum);
            if (!desk.isFree(k)) {
                return;
            }
            for (int c = 0; c < plan.causes(); c++) {
                int value = values[k * MOST_CAUSES + c];
                if (value > 0 && (used >> c & 1) == 0) {
                    picks[k] = c;
                    pickFrom(k + 1, used | 1 << c, sum + value);
                }
            }
            picks[k] = NONE;
        }

        private void keepIfMore(int sum) {
            if (sum > most) {
                most = sum;
                System.arraycopy(picks, 0, chosen, 0, MOST_CLERKS);
            }
        }

        private boolean isAtRest(int mine, int other) {
            return desk.isOpenAndSafe(mine) && desk.isOpenAndSafe(other)
                && isBestAgainst(mine, other) && isBestAgainst(other, mine);
        }

        private boolean isBestAgainst(int mine, int other) {
            for (int c = 0; c < plan.causes(); c++) {
                if (desk.isOpenAndSafe(c) && gainOf(c, other) > gainOf(mine, other)) {
                    return false;
                }
            }
            return true;
        }

        private int gainOf(int mine, int other) {
            return mine == other ? values[mine] / 2 : values[mine];
        }
    }

    /** WEEKS that go by a SCHOOL or by draws. */
    private static final class Runs {
        private final Plan plan;
        private final Desk desk;
        private final Ways ways;
        private final int[] before = new int[ROW_CELLS];
        private int seed;

        Runs(Plan plan, Desk desk, Ways ways) {
            this.plan = plan;
            this.desk = desk;
            this.ways = ways;
        }

        int coinBySchool(int s, int n) {
            desk.saveTo(before);
            int passing = Math.min(n, desk.weeksLeft());
            for (int i = 0; i < passing; i++) {
                for (int k = 0; k < plan.clerks(); k++) {
                    followSchool(s, k);
                }
                desk.passWeek();
            }
            int coin = desk.ofNow(COIN);
            desk.loadFrom(before);
            return coin;
        }

        /** Lets as many of n WEEKS go by draws as are left: how many did. */
        int passDrawn(int n, int firstSeed) {
            seed = firstSeed;
            int passing = Math.min(n, desk.weeksLeft());
            for (int i = 0; i < passing; i++) {
                for (int k = 0; k < plan.clerks(); k++) {
                    followDraw(k);
                }
                desk.passWeek();
            }
            return passing;
        }

        private void followSchool(int s, int k) {
            if (desk.isFree(k)) {
                takeFirst(k);
            }
            int c = desk.ofClerk(k, HAS);
            if (c == NONE) {
                return;
            }
            if (s == 0) {
                dropIfCan(k);
            } else if (s == 1) {
                // A CAUSE that is not SAFE has no NEAREST, so no DEED either: it is dropped too.
                int set = ways.nearestSet(c, desk.ofClerk(k, ZEAL));
                if (set <= 0) {
                    dropIfCan(k);
                } else {
                    actIfCan(k, Integer.numberOfTrailingZeros(set));
                }
            } else if (!actFirst(k)) {
                dropIfCan(k);
            }
        }

        private void takeFirst(int k) {
            for (int c = 0; c < plan.causes(); c++) {
                if (desk.whyNotTake(k, c) == 0) {
                    desk.doTake(k, c);
                    return;
                }
            }
        }

        private boolean actFirst(int k) {
            for (int d = 0; d < plan.deeds(); d++) {
                if (actIfCan(k, d)) {
                    return true;
                }
            }
            return false;
        }

        private boolean actIfCan(int k, int d) {
            if (desk.whyNotAct(k, d) != 0) {
                return false;
            }
            desk.doAct(k, d);
            return true;
        }

        private void dropIfCan(int k) {
            if (desk.whyNotDrop(k) == 0) {
                desk.doDrop(k);
            }
        }

        private void followDraw(int k) {
            int choice = nextDraw(3);
            if (choice == 0 && plan.causes() > 0) {
                int c = nextDraw(plan.causes());
                if (desk.whyNotTake(k, c) == 0) {
                    desk.doTake(k, c);
                }
            } else if (choice == 1 && plan.deeds() > 0) {
                actIfCan(k, nextDraw(plan.deeds()));
            } else if (choice == 2) {
                dropIfCan(k);
            }
        }

        private int nextDraw(int n) {
            seed = seed * 1103515245 + 12345;
            return n > 0 ? (seed >>> 8) % n : 0;
        }
    }

    /** The LINES of the latest LEDGER. */
    private static final class Ledger {
        private static final int TAKES = 0;
        private static final int DOES = 1;
        private static final int DROPS = 2;
        private static final int WEEKS = 3;

        private final Tape tape;
        private final Plan plan;
        private final int[] verbs = new int[MOST_LEDGER_LINES];
        private final int[] clerks = new int[MOST_LEDGER_LINES];
        // The CAUSE, the DEED or how many WEEKS.
        private final int[] objects = new int[MOST_LEDGER_LINES];
        private int size = 0;
        private int why = 0;

        Ledger(Tape tape, Plan plan) {
            this.tape = tape;
            this.plan = plan;
        }

        int size() {
            return size;
        }

        int whyWrong() {
            return why;
        }

        /** Reads the tape; false: the tape has a FAULT. */
        boolean read() {
            size = 0;
            tape.begin(MOST_LEDGER_BYTES);
            for (int line = 0; line <= MOST_LEDGER_LINES; line++) {
                if (tape.isAtEnd()) {
                    return true;
                }
                if (!readLine() || !tape.takeSign(';')) {
                    return false;
                }
                size++;
            }
            return false;
        }

        /** Lives LINE by LINE till one is WRONG: how many were lived. */
        int live(Desk desk) {
            why = 0;
            for (int line = 0; line < size; line++) {
                why = whyNot(desk, line);
                if (why != 0) {
                    return line;
                }
                liveLine(desk, line);
            }
            return size;
        }

        private boolean readLine() {
            boolean isWeeks = tape.isWord(Word.WEEK);
            if (!isWeeks && !tape.isName()) {
                return tape.fail(FAULT_TOKEN);
            }
            int k = isWeeks ? NONE : plan.clerkNamed(tape.letters());
            if (!isWeeks && k == NONE) {
                return tape.fail(FAULT_NAME);
            }
            if (size >= MOST_LEDGER_LINES) {
                return tape.fail(FAULT_TOO_MANY);
            }
            tape.advance();
            clerks[size] = k;
            return isWeeks ? readWeeks() : readVerb();
        }

        private boolean readWeeks() {
            if (!tape.takeNumber(1, 50)) {
                return false;
            }
            verbs[size] = WEEKS;
            objects[size] = tape.taken();
            return true;
        }

        private boolean readVerb() {
            if (tape.takeWord(Word.DROPS)) {
                verbs[size] = DROPS;
                objects[size] = NONE;
                return true;
            }
            boolean isTaking = tape.isWord(Word.TAKES);
            if (!isTaking && !tape.isWord(Word.DOES)) {
                return tape.fail(FAULT_TOKEN);
            }
            tape.advance();
            if (!tape.isName()) {
                return tape.fail(FAULT_TOKEN);
            }
            long name = tape.letters();
            int object = isTaking ? plan.causeNamed(name) : plan.deedNamed(name);
            if (object == NONE) {
                return tape.fail(FAULT_NAME);
            }
            verbs[size] = isTaking ? TAKES : DOES;
            objects[size] = object;
            tape.advance();
            return true;
        }

        private int whyNot(Desk desk, int line) {
            int verb = verbs[line];
            if (verb == WEEKS) {
                return desk.weeksLeft() < objects[line] ? TOO_FEW_WEEKS : 0;
            }
            int reason;
            if (verb == TAKES) {
                reason = desk.whyNotTake(clerks[line], objects[line]);
            } else if (verb == DOES) {
                reason = desk.whyNotAct(clerks[line], objects[line]);
            } else {
                reason = desk.whyNotDrop(clerks[line]);
            }
            return reason == 0 ? 0 : reason + 10 * verb;
        }

        private void liveLine(Desk desk, int line) {
            int verb = verbs[line];
            if (verb == WEEKS) {
                desk.passWeeks(objects[line]);
            } else if (verb == TAKES) {
                desk.doTake(clerks[line], objects[line]);
            } else if (verb == DOES) {
                desk.doAct(clerks[line], objects[line]);
            } else {
                desk.doDrop(clerks[line]);
            }
        }
    }

    /** A SENTENCE, its ONES ahead of the 'not', 'and', 'or' that join them. */
    private static final class Sentence {
        private static final int NOT = 0;
        private static final int AND = 1;
        private static final int OR = 2;
        private static final int IS_STATE = 3;
        private static final int HAD = 4;
        private static final int NEAR = 5;
        private static final int PURSES = 6;
        private static final int BELIEF = 7;
        private static final int NUMBER = 8;
        private static final int BRACKET = 9;
        // Each ONE is one step at most, and fewer than ONES join them.
        private static final int MOST_STEPS = 2 * MOST_ONES;

        private final int[] steps = new int[MOST_STEPS];
        // The STATE, the DEED or the SIGN.
        private final int[] firsts = new int[MOST_STEPS];
        private final int[] numbers = new int[MOST_STEPS];
        private int size = 0;
        private int ones = 0;

        void empty() {
            size = 0;
        }

        boolean isEmpty() {
            return size == 0;
        }

        void copyFrom(Sentence other) {
            size = other.size;
            System.arraycopy(other.steps, 0, steps, 0, MOST_STEPS);
            System.arraycopy(other.firsts, 0, firsts, 0, MOST_STEPS);
            System.arraycopy(other.numbers, 0, numbers, 0, MOST_STEPS);
        }

        /** Reads the tape: how many ONES; NONE: the tape has a FAULT, and this is of no use then. */
        int read(Tape tape, Plan plan) {
            size = 0;
            ones = 0;
            tape.begin(MOST_SENTENCE_BYTES);
            if (!readCond(tape, plan, 1)) {
                return NONE;
            }
            if (!tape.isAtEnd()) {
                tape.fail(FAULT_TOKEN);
                return NONE;
            }
            return ones;
        }

        /** Whether it may be said of a CAUSE; the bits of truths are those not joined yet. */
        boolean holdsOf(Desk desk, int c) {
            int truths = 0;
            for (int i = 0; i < size; i++) {
                int step = steps[i];
                int top = truths & 1;
                if (step == NOT) {
                    truths ^= 1;
                } else if (step == AND) {
                    truths = truths >> 1 & (top | ~1);
                } else if (step == OR) {
                    truths = truths >> 1 | top;
                } else {
                    truths = truths << 1 | (isTrue(i, desk, c) ? 1 : 0);
                }
            }
            return (truths & 1) != 0;
        }

        private boolean isTrue(int i, Desk desk, int c) {
            switch (steps[i]) {
                case IS_STATE: return desk.ofCause(c, STATE) == firsts[i];
                case HAD: return (desk.ofCause(c, DONE) >> firsts[i] & 1) != 0;
                case NEAR: return isSo(desk.nearness(c), i);
                case PURSES: return isSo(desk.ofCause(c, PURSE), i);
                case BELIEF: return isSo(desk.ofCause(c, BELIEVERS), i);
                default: return isSo(c, i);
            }
        }

        private boolean isSo(int number, int i) {
            if (firsts[i] == '<') {
                return number < numbers[i];
            }
            return firsts[i] == '>' ? number > numbers[i] : number == numbers[i];
        }

        /** Reads ONES joined by 'and' and 'or'; an 'or' waits till the ALL behind it is whole. */
        private boolean readCond(Tape tape, Plan plan, int depth) {
            if (!readOne(tape, plan, depth)) {
                return false;
            }
            boolean isOrWaiting = false;
            for (int more = 0; more < MOST_ONES; more++) {
                boolean isAnd = tape.takeWord(Word.AND);
                if (!isAnd) {
                    if (isOrWaiting) {
                        add(OR, 0, 0);
                    }
                    isOrWaiting = tape.takeWord(Word.OR);
                    if (!isOrWaiting) {
                        return true;
                    }
                }
                if (!readOne(tape, plan, depth)) {
                    return false;
                }
                if (isAnd) {
                    add(AND, 0, 0);
                }
            }
            return tape.fail(FAULT_TOO_MANY);
        }

        private boolean readOne(Tape tape, Plan plan, int depth) {
            int step = stepHere(tape);
            if (step == NONE) {
                return tape.fail(FAULT_TOKEN);
            }
            if (ones >= MOST_ONES || depth > MOST_WITHIN) {
                return tape.fail(FAULT_TOO_MANY);
            }
            ones++;
            int state = stateHere(tape);
            tape.advance();
            switch (step) {
                case BRACKET: return readCond(tape, plan, depth + 1) && tape.takeSign(')');
                case NOT: return readOne(tape, plan, depth + 1) && add(NOT, 0, 0);
                case IS_STATE: return add(IS_STATE, state, 0);
                case HAD: return readHad(tape, plan);
                default: return readMeasure(tape, step);
            }
        }

        private boolean readHad(Tape tape, Plan plan) {
            if (!tape.isName()) {
                return tape.fail(FAULT_TOKEN);
            }
            int d = plan.deedNamed(tape.letters());
            if (d == NONE) {
                return tape.fail(FAULT_NAME);
            }
            tape.advance();
            return add(HAD, d, 0);
        }

        private boolean readMeasure(Tape tape, int measure) {
            int sign = tape.isSign('<') ? '<' : tape.isSign('>') ? '>' : '=';
            return tape.takeSign(sign) && tape.takeNumber(0, 999) && add(measure, sign, tape.taken());
        }

        /** What begins with the TOKEN that stands here; NONE: no ONE does. */
        private static int stepHere(Tape tape) {
            if (tape.isSign('(')) {
                return BRACKET;
            }
            if (tape.isWord(Word.NOT)) {
                return NOT;
            }
            if (tape.isWord(Word.HAD)) {
                return HAD;
            }
            if (tape.isWord(Word.NEAR)) {
                return NEAR;
            }
            if (tape.isWord(Word.PURSE)) {
                return PURSES;
            }
            if (tape.isWord(Word.BELIEF)) {
                return BELIEF;
            }
            if (tape.isWord(Word.NUMBER)) {
                return NUMBER;
            }
            return stateHere(tape) == NONE ? NONE : IS_STATE;
        }

        private static int stateHere(Tape tape) {
            if (tape.isWord(Word.OPEN)) {
                return OPEN;
            }
            if (tape.isWord(Word.TAKEN)) {
                return TAKEN;
            }
            if (tape.isWord(Word.DROPPED)) {
                return DROPPED;
            }
            if (tape.isWord(Word.WON)) {
                return WON;
            }
            return tape.isWord(Word.DEAD) ? DEAD : NONE;
        }

        private boolean add(int step, int first, int number) {
            if (size >= MOST_STEPS) {
                return false;
            }
            steps[size] = step;
            firsts[size] = first;
            numbers[size] = number;
            size++;
            return true;
        }
    }

    /** OFFICE, all that is so and the SENTENCE, as they were kept. */
    private static final class Image {
        private final Plan plan = new Plan();
        private final int[] row = new int[ROW_CELLS];
        private final Sentence sentence = new Sentence();
        private boolean isKept = false;

        boolean isKept() {
            return isKept;
        }

        void keep(Plan planNow, Desk deskNow, Sentence sentenceNow) {
            plan.copyFrom(planNow);
            deskNow.saveTo(row);
            sentence.copyFrom(sentenceNow);
            isKept = true;
        }

        void giveBack(Plan planNow, Desk deskNow, Sentence sentenceNow) {
            planNow.copyFrom(plan);
            deskNow.loadFrom(row);
            sentenceNow.copyFrom(sentence);
        }
    }
}
