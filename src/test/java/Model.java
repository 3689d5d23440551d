import java.util.ArrayDeque;
import java.util.ArrayList;
import java.util.Arrays;
import java.util.Deque;
import java.util.HashMap;
import java.util.List;
import java.util.Map;
import java.util.NoSuchElementException;
import java.util.Set;
import java.util.function.Predicate;

/** The document read once more, as plainly as can be and with no thought of speed: what LostCauses is held against. */
final class Model {
    static final Set<String> RESERVED = Set.of("line", "coin", "cause", "rumour", "deed", "clerk", "takes", "does",
        "drops", "week", "or", "and", "not", "open", "taken", "dropped", "won", "dead", "had", "near", "purse",
        "belief", "number");
    static final List<String> STATES = List.of("open", "taken", "dropped", "won", "dead");

    static final class Fault extends Exception {
        private static final long serialVersionUID = 1L;
        final int kind;
        final int place;

        Fault(int kind, int place) {
            this.kind = kind;
            this.place = place;
        }
    }

    record Token(String text, int place) {
        boolean isWord() {
            return text.matches("[a-z]{1,7}");
        }

        boolean isNumber() {
            return text.matches("[0-9]{1,3}");
        }

        boolean isName() {
            return isWord() && !RESERVED.contains(text);
        }
    }

    record Deed(String name, int up, int down, int cost) {
    }

    static final class Cause {
        String name;
        int firstPro, firstContra, pro, contra, purse, belief, state, clerk = -1, done, flag = -1, droppedIn;
        int rumourPro, rumourContra;

        Cause copy() {
            Cause c = new Cause();
            c.name = name;
            c.firstPro = firstPro;
            c.firstContra = firstContra;
            c.pro = pro;
            c.contra = contra;
            c.purse = purse;
            c.belief = belief;
            c.state = state;
            c.clerk = clerk;
            c.done = done;
            c.flag = flag;
            c.droppedIn = droppedIn;
            c.rumourPro = rumourPro;
            c.rumourContra = rumourContra;
            return c;
        }
    }

    static final class Clerk {
        String name;
        int zeal, told, cause = -1, acts, brought;
        boolean acted;

        Clerk copy() {
            Clerk k = new Clerk();
            k.name = name;
            k.zeal = zeal;
            k.told = told;
            k.cause = cause;
            k.acts = acts;
            k.brought = brought;
            k.acted = acted;
            return k;
        }
    }

    /** OFFICE and all that is so. */
    static final class World {
        int n = 1, m = 9, coin = 50, week, disgraces, deedsDone, firstDisgrace = -1, flags;
        List<Cause> causes = new ArrayList<>();
        List<Deed> deeds = new ArrayList<>();
        List<Clerk> clerks = new ArrayList<>();

        World copy() {
            World w = new World();
            w.n = n;
            w.m = m;
            w.coin = coin;
            w.week = week;
            w.disgraces = disgraces;
            w.deedsDone = deedsDone;
            w.firstDisgrace = firstDisgrace;
            w.flags = flags;
            for (Cause c : causes) {
                w.causes.add(c.copy());
            }
            w.deeds.addAll(deeds);
            for (Clerk k : clerks) {
                w.clerks.add(k.copy());
            }
            return w;
        }

        boolean safe(long pro, long contra) {
            return pro * m < n * (pro + contra);
        }

        boolean safe(Cause c) {
            return safe(c.pro, c.contra);
        }

        int near(long pro, long contra) {
            return (int) (1000 * pro * m / ((pro + contra) * n));
        }

        int near(Cause c) {
            return near(c.pro, c.contra);
        }

        int up(int set) {
            int sum = 0;
            for (int d = 0; d < deeds.size(); d++) {
                sum += (set & 1 << d) != 0 ? deeds.get(d).up : 0;
            }
            return sum;
        }

        int down(int set) {
            int sum = 0;
            for (int d = 0; d < deeds.size(); d++) {
                sum += (set & 1 << d) != 0 ? deeds.get(d).down : 0;
            }
            return sum;
        }

        int cost(int set) {
            int sum = 0;
            for (int d = 0; d < deeds.size(); d++) {
                sum += (set & 1 << d) != 0 ? deeds.get(d).cost : 0;
            }
            return sum;
        }

        int take(int k, int c) {
            Clerk clerk = clerks.get(k);
            Cause cause = causes.get(c);
            int why = clerk.cause >= 0 ? 1 : cause.state != 0 ? 2 : !safe(cause) ? 3 : week >= 200 ? 4 : 0;
            if (why == 0) {
                clerk.cause = c;
                cause.clerk = k;
                cause.state = 1;
            }
            return why;
        }

        int act(int k, int d) {
            Clerk clerk = clerks.get(k);
            if (clerk.cause < 0) {
                return 1;
            }
            Cause cause = causes.get(clerk.cause);
            Deed deed = deeds.get(d);
            int why = (cause.done & 1 << d) != 0 ? 2 : clerk.zeal <= 0 ? 3 : clerk.acted ? 4 : deed.cost > coin ? 5 : 0;
            if (why == 0) {
                cause.pro += deed.up;
                cause.contra += deed.down;
                cause.done |= 1 << d;
                coin -= deed.cost;
                clerk.zeal--;
                clerk.acts++;
                clerk.acted = true;
                deedsDone++;
            }
            return why;
        }

        int drop(int k) {
            Clerk clerk = clerks.get(k);
            int why = clerk.cause < 0 ? 1 : (week + 1) % 5 == 0 ? 2 : 0;
            if (why == 0) {
                Cause cause = causes.get(clerk.cause);
                int paid = pay(cause);
                coin += paid;
                clerk.brought += paid;
                clerk.cause = -1;
                cause.clerk = -1;
                cause.state = 2;
                cause.flag = near(cause);
                cause.droppedIn = week;
                flags++;
            }
            return why;
        }

        int pay(Cause c) {
            return safe(c) ? c.purse * near(c) / 1000 : 0;
        }

        void pass() {
            for (Clerk k : clerks) {
                k.zeal = k.acted ? k.zeal : Math.min(k.told, k.zeal + 1);
                k.acted = false;
            }
            for (Cause c : causes) {
                if (c.state == 1 && !safe(c)) {
                    c.state = 3;
                    clerks.get(c.clerk).cause = -1;
                    c.clerk = -1;
                    coin = 0;
                    disgraces++;
                    firstDisgrace = firstDisgrace < 0 ? week : firstDisgrace;
                } else if (c.state == 1) {
                    c.belief = Math.min(20, c.belief + 1);
                } else if (c.state == 0 || c.state == 2) {
                    c.belief--;
                    if (c.belief == 0) {
                        c.state = 4;
                    } else if (c.state == 2 && c.droppedIn + 4 == week) {
                        c.state = 0;
                    }
                }
            }
            week++;
        }

        /** In how many orders the rest of a set can be done, walking every order. */
        int orders(long pro, long contra, int rest) {
            if (!safe(pro, contra)) {
                return 0;
            }
            int sum = rest == 0 ? 1 : 0;
            for (int d = 0; d < deeds.size(); d++) {
                if ((rest & 1 << d) != 0) {
                    sum += orders(pro + deeds.get(d).up, contra + deeds.get(d).down, rest & ~(1 << d));
                }
            }
            return sum;
        }

        List<Integer> open(Cause c) {
            List<Integer> sets = new ArrayList<>();
            for (int set = 0; set < 1 << deeds.size(); set++) {
                if ((set & c.done) == 0) {
                    sets.add(set);
                }
            }
            return sets;
        }

        List<Integer> ways(Cause c, int n) {
            List<Integer> sets = open(c);
            sets.removeIf(set -> Integer.bitCount(set) > n || orders(c.pro, c.contra, set) == 0);
            return sets;
        }

        int nearest(Cause c, int n) {
            return ways(c, n).stream().min((a, b) -> {
                long left = (long) (c.pro + up(a)) * (c.pro + c.contra + up(b) + down(b));
                long right = (long) (c.pro + up(b)) * (c.pro + c.contra + up(a) + down(a));
                return left != right ? Long.compare(right, left)
                    : cost(a) != cost(b) ? Integer.compare(cost(a), cost(b)) : Integer.compare(a, b);
            }).orElse(-1);
        }

        int value(Clerk k, Cause c) {
            if (c.state != 0 || !safe(c)) {
                return 0;
            }
            int set = nearest(c, k.zeal);
            return c.purse * near(c.pro + up(set), c.contra + down(set)) / 1000 - cost(set);
        }

        void school(int s) {
            for (int k = 0; k < clerks.size(); k++) {
                for (int c = 0; c < causes.size() && clerks.get(k).cause < 0; c++) {
                    take(k, c);
                }
                if (clerks.get(k).cause < 0) {
                    continue;
                }
                Cause cause = causes.get(clerks.get(k).cause);
                int set = s == 1 ? nearest(cause, clerks.get(k).zeal) : -1;
                if (s == 0 || s == 1 && set <= 0) {
                    drop(k);
                } else if (s == 1) {
                    act(k, Integer.numberOfTrailingZeros(set));
                } else {
                    int d = 0;
                    while (d < deeds.size() && act(k, d) != 0) {
                        d++;
                    }
                    if (d == deeds.size()) {
                        drop(k);
                    }
                }
            }
            pass();
        }

        int seed;

        int draw(int among) {
            seed = seed * 1103515245 + 12345;
            return (seed >>> 8) % among;
        }

        void drawWeek() {
            for (int k = 0; k < clerks.size(); k++) {
                int choice = draw(3);
                if (choice == 0 && !causes.isEmpty()) {
                    take(k, draw(causes.size()));
                } else if (choice == 1 && !deeds.isEmpty()) {
                    act(k, draw(deeds.size()));
                } else if (choice == 2) {
                    drop(k);
                }
            }
            pass();
        }
    }

    private World world = new World();
    private Predicate<Integer> sentence;
    private final StringBuilder tape = new StringBuilder();
    private final Deque<World> past = new ArrayDeque<>();
    private final World[] images = new World[2];
    private final List<Predicate<Integer>> imageSentences = new ArrayList<>(Arrays.asList(null, null));
    private int fault;
    private int[] matched = new int[0];
    private int tried = -1;
    private int[] booked = {-1, -1, -1, -1};

    // The reading of texts.
    private List<Token> tokens;
    private int at;

    private void tokenise(int most) {
        tokens = new ArrayList<>();
        int i = 0;
        while (i < tape.length() && i < most) {
            char sign = tape.charAt(i);
            int from = i++;
            if (sign == ' ' || sign == '\n') {
                continue;
            }
            if (("" + sign).matches("[a-z0-9]")) {
                while (i < tape.length() && ("" + tape.charAt(i)).matches("[a-z0-9]")) {
                    i++;
                }
            }
            tokens.add(new Token(tape.substring(from, i), from));
        }
        boolean tooLong = tape.length() > most;
        tokens.add(new Token(tooLong ? "too long" : "", tooLong ? most : tape.length()));
        at = 0;
    }

    private Token token() {
        return tokens.get(at);
    }

    private boolean ended() {
        return token().text.isEmpty();
    }

    private boolean maybe(String text) {
        boolean is = token().text.equals(text);
        at += is ? 1 : 0;
        return is;
    }

    private void must(boolean holds, int kind) throws Fault {
        if (!holds) {
            throw new Fault(kind, token().place);
        }
    }

    private int number(int least, int most) throws Fault {
        must(token().isNumber(), 1);
        int number = Integer.parseInt(token().text);
        must(number >= least && number <= most, 2);
        at++;
        return number;
    }

    private String name() throws Fault {
        must(token().isName(), 1);
        return token().text;
    }

    private static int place(List<String> names, String name) {
        return names.indexOf(name);
    }

    private static List<String> causeNames(World w) {
        return w.causes.stream().map(c -> c.name).toList();
    }

    private static List<String> deedNames(World w) {
        return w.deeds.stream().map(Deed::name).toList();
    }

    private static List<String> clerkNames(World w) {
        return w.clerks.stream().map(k -> k.name).toList();
    }

    private int readOffice(World w) throws Fault {
        tokenise(900);
        Map<String, Boolean> told = new HashMap<>();
        int lines = 0;
        for (; !ended(); lines++) {
            String sort = token().text;
            must(List.of("line", "coin", "cause", "rumour", "deed", "clerk").contains(sort), 1);
            must(!(sort.equals("line") || sort.equals("coin")) || !told.containsKey(sort), 3);
            must(!sort.equals("cause") || w.causes.size() < 6, 4);
            must(!sort.equals("deed") || w.deeds.size() < 6, 4);
            must(!sort.equals("clerk") || w.clerks.size() < 5, 4);
            told.put(sort, true);
            at++;
            if (sort.equals("line")) {
                w.n = number(1, 98);
                w.m = number(w.n + 1, 99);
            } else if (sort.equals("coin")) {
                w.coin = number(0, 999);
            } else {
                readNamed(w, sort, told);
            }
            must(maybe(";"), 1);
        }
        return lines;
    }

    private void readNamed(World w, String sort, Map<String, Boolean> told) throws Fault {
        String name = name();
        if (sort.equals("rumour")) {
            int c = place(causeNames(w), name);
            must(c >= 0 && !told.containsKey("rumour of " + name), 3);
            told.put("rumour of " + name, true);
            at++;
            w.causes.get(c).rumourPro = number(0, 99);
            w.causes.get(c).rumourContra = number(1, 99);
            return;
        }
        must(!told.containsKey("name " + name), 3);
        told.put("name " + name, true);
        at++;
        if (sort.equals("cause")) {
            Cause c = new Cause();
            c.name = name;
            c.firstPro = c.pro = number(0, 99);
            c.firstContra = c.contra = number(1, 99);
            c.purse = number(1, 99);
            c.belief = number(1, 20);
            w.causes.add(c);
        } else if (sort.equals("deed")) {
            w.deeds.add(new Deed(name, number(0, 20), number(0, 20), number(0, 20)));
        } else {
            Clerk k = new Clerk();
            k.name = name;
            k.zeal = k.told = number(1, 9);
            w.clerks.add(k);
        }
    }

    /** LINES as numbers: what is done (0 takes, 1 does, 2 drops, 3 week), the CLERK, and what with. */
    private List<int[]> readLedger() throws Fault {
        tokenise(400);
        List<int[]> lines = new ArrayList<>();
        while (!ended()) {
            boolean week = token().text.equals("week");
            int k = -1;
            if (!week) {
                k = place(clerkNames(world), name());
                must(k >= 0, 3);
            }
            must(lines.size() < 40, 4);
            at++;
            if (week) {
                lines.add(new int[] {3, k, number(1, 50)});
            } else if (maybe("drops")) {
                lines.add(new int[] {2, k, 0});
            } else {
                boolean takes = maybe("takes");
                must(takes || maybe("does"), 1);
                int what = place(takes ? causeNames(world) : deedNames(world), name());
                must(what >= 0, 3);
                at++;
                lines.add(new int[] {takes ? 0 : 1, k, what});
            }
            must(maybe(";"), 1);
        }
        return lines;
    }

    private int ones;

    private Predicate<Integer> readCond(int depth) throws Fault {
        Predicate<Integer> left = readAll(depth);
        while (maybe("or")) {
            left = left.or(readAll(depth));
        }
        return left;
    }

    private Predicate<Integer> readAll(int depth) throws Fault {
        Predicate<Integer> left = readOne(depth);
        while (maybe("and")) {
            left = left.and(readOne(depth));
        }
        return left;
    }

    private Predicate<Integer> readOne(int depth) throws Fault {
        String word = token().text;
        List<String> measures = List.of("near", "purse", "belief", "number");
        must(List.of("not", "(", "had").contains(word) || STATES.contains(word) || measures.contains(word), 1);
        must(ones < 20 && depth <= 8, 4);
        ones++;
        at++;
        if (word.equals("not")) {
            return readOne(depth + 1).negate();
        }
        if (word.equals("(")) {
            Predicate<Integer> inner = readCond(depth + 1);
            must(maybe(")"), 1);
            return inner;
        }
        if (STATES.contains(word)) {
            return c -> world.causes.get(c).state == STATES.indexOf(word);
        }
        if (word.equals("had")) {
            int d = place(deedNames(world), name());
            must(d >= 0, 3);
            at++;
            return c -> (world.causes.get(c).done & 1 << d) != 0;
        }
        String sign = token().text;
        must(List.of("<", "=", ">").contains(sign), 1);
        at++;
        int number = number(0, 999);
        return c -> {
            Cause cause = world.causes.get(c);
            int is = word.equals("near") ? world.near(cause) : word.equals("purse") ? cause.purse
                : word.equals("belief") ? cause.belief : c;
            return sign.equals("<") ? is < number : sign.equals(">") ? is > number : is == number;
        };
    }

    // The face.

    int feed(int... numbers) {
        if (tape.length() + 20 > 940) {
            return -1;
        }
        for (int number : numbers) {
            for (int shift = 24; shift >= 0; shift -= 8) {
                tape.append((char) (number >>> shift & 255));
            }
        }
        return tape.length();
    }

    boolean end(int n) {
        if (n < 0 || n > tape.length()) {
            return false;
        }
        tape.setLength(n);
        return true;
    }

    int office() {
        World next = new World();
        try {
            int lines = readOffice(next);
            world = next;
            sentence = null;
            past.clear();
            fault = 0;
            return lines;
        } catch (Fault f) {
            fault = f.kind;
            return -1 - f.place;
        } finally {
            tape.setLength(0);
        }
    }

    int fault() {
        return fault;
    }

    private boolean isCause(int c) {
        return c >= 0 && c < world.causes.size();
    }

    private boolean isDeed(int d) {
        return d >= 0 && d < world.deeds.size();
    }

    private boolean isClerk(int k) {
        return k >= 0 && k < world.clerks.size();
    }

    private static void exists(boolean does) {
        if (!does) {
            throw new NoSuchElementException();
        }
    }

    int cause(int c, int what) {
        exists(isCause(c) && what >= 0 && what <= 8);
        Cause x = world.causes.get(c);
        return new int[] {x.pro, x.contra, x.purse, x.belief, x.state, x.clerk, x.done, x.flag, world.near(x)}[what];
    }

    private static int least(int above, int below, int what) {
        int by = above + below;
        while (above % by != 0 || below % by != 0) {
            by--;
        }
        return (what == 0 ? above : below) / by;
    }

    int odds(int c, int what) {
        exists(isCause(c) && what >= 0 && what <= 1);
        Cause x = world.causes.get(c);
        return least(x.pro, x.pro + x.contra, what);
    }

    int fair(int c, int what) {
        exists(isCause(c) && what >= 0 && what <= 1 && world.causes.get(c).pro > 0);
        return least(world.causes.get(c).contra, world.causes.get(c).pro, what);
    }

    int deed(int d, int what) {
        if (!isDeed(d) || what < 0 || what > 2) {
            return -1;
        }
        Deed x = world.deeds.get(d);
        return new int[] {x.up, x.down, x.cost}[what];
    }

    int clerk(int k, int what) {
        if (!isClerk(k) || what < 0 || what > 5) {
            return -1;
        }
        Clerk x = world.clerks.get(k);
        return new int[] {x.zeal, x.told, x.cause, x.acts, x.acted ? 1 : 0, x.brought}[what];
    }

    int now(int what) {
        if (what < 0 || what > 6) {
            return -1;
        }
        int dead = 0;
        for (int c = 0; c < world.causes.size(); c++) {
            dead |= world.causes.get(c).state == 4 ? 1 << c : 0;
        }
        return new int[] {world.week, world.coin, world.disgraces, dead, world.deedsDone, world.firstDisgrace,
            world.flags}[what];
    }

    private void keep(World before) {
        past.addLast(before);
        if (past.size() > 8) {
            past.removeFirst();
        }
    }

    int take(int k, int c) {
        if (!isClerk(k) || !isCause(c)) {
            return -1;
        }
        World before = world.copy();
        int why = world.take(k, c);
        if (why == 0) {
            keep(before);
        }
        return why;
    }

    int act(int k, int d) {
        if (!isClerk(k) || !isDeed(d)) {
            return -1;
        }
        World before = world.copy();
        int why = world.act(k, d);
        if (why == 0) {
            keep(before);
        }
        return why;
    }

    int drop(int k) {
        if (!isClerk(k)) {
            return -1;
        }
        World before = world.copy();
        int why = world.drop(k);
        if (why == 0) {
            keep(before);
        }
        return why;
    }

    int weeks(int n) {
        if (n < 1 || n > 50) {
            return -1;
        }
        World before = world.copy();
        int passed = 0;
        while (passed < n && world.week < 200) {
            world.pass();
            passed++;
        }
        if (passed > 0) {
            keep(before);
        }
        return passed;
    }

    int undo() {
        if (past.isEmpty()) {
            return -1;
        }
        world = past.removeLast();
        return past.size();
    }

    int nearest(int c, int n) {
        return isCause(c) && n >= 0 && n <= 6 ? world.nearest(world.causes.get(c), n) : -1;
    }

    private boolean isSet(int c, int set) {
        return isCause(c) && world.open(world.causes.get(c)).contains(set);
    }

    int near(int c, int set) {
        if (!isSet(c, set)) {
            return -1;
        }
        Cause x = world.causes.get(c);
        return world.near(x.pro + world.up(set), x.contra + world.down(set));
    }

    int orders(int c, int set) {
        return isSet(c, set) ? world.orders(world.causes.get(c).pro, world.causes.get(c).contra, set) : -1;
    }

    int ways(int c, int n) {
        return isCause(c) && n >= 0 && n <= 6 ? world.ways(world.causes.get(c), n).size() : -1;
    }

    int value(int k, int c) {
        exists(isClerk(k) && isCause(c));
        return world.value(world.clerks.get(k), world.causes.get(c));
    }

    private int[][] values() {
        int[][] values = new int[world.clerks.size()][world.causes.size()];
        for (int k = 0; k < values.length; k++) {
            for (int c = 0; c < values[k].length; c++) {
                values[k][c] = value(k, c);
            }
        }
        return values;
    }

    private int most;

    int match() {
        most = Integer.MIN_VALUE;
        pick(values(), new int[world.clerks.size()], 0, 0);
        return most;
    }

    private void pick(int[][] values, int[] picks, int k, int sum) {
        if (k == picks.length) {
            if (sum > most) {
                most = sum;
                matched = picks.clone();
            }
            return;
        }
        for (int c = -1; c < world.causes.size(); c++) {
            boolean used = false;
            for (int i = 0; i < k; i++) {
                used |= c >= 0 && picks[i] == c;
            }
            if (!used && (c < 0 || world.clerks.get(k).cause < 0)) {
                picks[k] = c;
                pick(values, picks, k + 1, sum + (c < 0 ? 0 : values[k][c]));
            }
        }
    }

    int matched(int k) {
        return k >= 0 && k < matched.length ? matched[k] : -1;
    }

    int rests(int k) {
        if (world.clerks.isEmpty()) {
            return -1;
        }
        List<Integer> free = new ArrayList<>();
        for (int c = 0; c < world.causes.size(); c++) {
            if (world.causes.get(c).state == 0 && world.safe(world.causes.get(c))) {
                free.add(c);
            }
        }
        int[] values = world.causes.isEmpty() ? new int[0] : values()[0];
        List<Integer> pairs = new ArrayList<>();
        for (int a : free) {
            for (int b : free) {
                boolean rest = true;
                for (int other : free) {
                    rest &= gain(values, other, b) <= gain(values, a, b);
                    rest &= gain(values, other, a) <= gain(values, b, a);
                }
                if (rest) {
                    pairs.add(10 * a + b);
                }
            }
        }
        return k == -1 ? pairs.size() : k >= 0 && k < pairs.size() ? pairs.get(k) : -1;
    }

    private static int gain(int[] values, int mine, int other) {
        return mine == other ? values[mine] / 2 : values[mine];
    }

    int parts(int c) {
        if (!isCause(c) || world.causes.get(c).rumourContra == 0) {
            return -1;
        }
        Cause x = world.causes.get(c);
        List<Integer> sets = world.open(x);
        sets.removeIf(set -> world.safe(x.pro + world.up(set), x.contra + world.down(set))
            == world.safe(x.rumourPro + world.up(set | x.done), x.rumourContra + world.down(set | x.done)));
        return sets.stream().min((a, b) -> Integer.bitCount(a) != Integer.bitCount(b)
            ? Integer.bitCount(a) - Integer.bitCount(b) : a - b).orElse(-1);
    }

    int plot(int c) {
        if (!isCause(c)) {
            return -1;
        }
        Cause x = world.causes.get(c);
        List<Integer> sets = world.open(x);
        sets.removeIf(set -> world.safe(x.pro + world.up(set), x.contra + world.down(set)));
        return sets.stream().min((a, b) -> Integer.bitCount(a) != Integer.bitCount(b)
            ? Integer.bitCount(a) - Integer.bitCount(b)
            : world.cost(a) != world.cost(b) ? world.cost(a) - world.cost(b) : a - b).orElse(-1);
    }

    int school(int s, int n) {
        if (s < 0 || s > 2 || n < 1 || n > 50) {
            return -1;
        }
        World w = world.copy();
        for (int i = 0; i < n && w.week < 200; i++) {
            w.school(s);
        }
        return w.coin;
    }

    int best(int n) {
        int best = n < 1 || n > 50 ? -1 : 0;
        for (int s = 1; s < 3 && best >= 0; s++) {
            best = school(s, n) > school(best, n) ? s : best;
        }
        return best;
    }

    int flags(int c) {
        String text = tape.toString();
        tape.setLength(0);
        if (text.length() != 2 || !isCause(c)) {
            return -1;
        }
        Cause x = world.causes.get(c);
        int count = 0;
        int common = -1;
        for (int set = 0; set < 1 << world.deeds.size(); set++) {
            if (x.firstPro + world.up(set) == text.charAt(0) && x.firstContra + world.down(set) == text.charAt(1)) {
                count++;
                common &= set;
            }
        }
        tried = count > 0 ? common : tried;
        return count;
    }

    int tried() {
        return tried;
    }

    int pay(int c) {
        return isCause(c) ? world.pay(world.causes.get(c)) : -1;
    }

    int dies(int c) {
        if (!isCause(c) || world.causes.get(c).state == 1 || world.causes.get(c).state == 3) {
            return -1;
        }
        World w = world.copy();
        int weeks = 0;
        for (; w.causes.get(c).state != 4; weeks++) {
            w.pass();
        }
        return weeks;
    }

    int saddest() {
        int found = -1;
        for (int c = world.causes.size() - 1; c >= 0; c--) {
            Cause x = world.causes.get(c);
            if (x.state <= 2 && world.safe(x) && (found < 0 || world.near(x) >= world.near(world.causes.get(found)))) {
                found = c;
            }
        }
        return found;
    }

    int drawn(int n, int seed) {
        if (n < 1 || n > 50 || world.clerks.isEmpty()) {
            return -1;
        }
        World before = world.copy();
        world.seed = seed;
        int passed = 0;
        for (; passed < n && world.week < 200; passed++) {
            world.drawWeek();
        }
        if (passed > 0) {
            keep(before);
        }
        return passed;
    }

    int risk(int n, int seed) {
        if (n < 1 || n > 40 || world.clerks.isEmpty()) {
            return -1;
        }
        int count = 0;
        for (int i = 0; i < n; i++) {
            World w = world.copy();
            w.seed = seed + i;
            for (int week = 0; week < 20 && w.week < 200; week++) {
                w.drawWeek();
            }
            count += w.disgraces > world.disgraces ? 1 : 0;
        }
        return count;
    }

    int ledger(int lives) {
        if (lives != 0 && lives != 1) {
            return -1000;
        }
        List<int[]> lines;
        try {
            lines = readLedger();
            fault = 0;
        } catch (Fault f) {
            fault = f.kind;
            return -2 - f.place;
        } finally {
            tape.setLength(0);
        }
        World w = world.copy();
        int why = 0;
        int lived = 0;
        for (; lived < lines.size(); lived++) {
            int[] line = lines.get(lived);
            int got = line[0] == 0 ? w.take(line[1], line[2]) : line[0] == 1 ? w.act(line[1], line[2])
                : line[0] == 2 ? w.drop(line[1]) : 200 - w.week < line[2] ? 1 : 0;
            if (got != 0) {
                why = 10 * line[0] + got;
                break;
            }
            for (int i = 0; line[0] == 3 && i < line[2]; i++) {
                w.pass();
            }
        }
        booked = new int[] {why, lived, w.coin, w.disgraces - world.disgraces};
        if (lives == 1 && lived > 0) {
            keep(world);
            world = w;
        }
        return lived < lines.size() ? lived : -1;
    }

    int booked(int what) {
        return what < 0 || what > 3 ? -1 : booked[what];
    }

    int sentence() {
        tokenise(200);
        ones = 0;
        try {
            Predicate<Integer> read = readCond(1);
            must(ended(), 1);
            sentence = read;
            fault = 0;
            return ones;
        } catch (Fault f) {
            fault = f.kind;
            return -1 - f.place;
        } finally {
            tape.setLength(0);
        }
    }

    int said(int k) {
        if (sentence == null) {
            return -1;
        }
        List<Integer> found = new ArrayList<>();
        for (int c = 0; c < world.causes.size(); c++) {
            if (sentence.test(c)) {
                found.add(c);
            }
        }
        return k == -1 ? found.size() : k >= 0 && k < found.size() ? found.get(k) : -1;
    }

    boolean image(int k) {
        if (k < 0 || k > 1) {
            return false;
        }
        images[k] = world.copy();
        imageSentences.set(k, sentence);
        return true;
    }

    boolean restore(int k) {
        if (k < 0 || k > 1 || images[k] == null) {
            return false;
        }
        world = images[k].copy();
        sentence = imageSentences.get(k);
        past.clear();
        return true;
    }

    int count(int what) {
        int rumours = (int) world.causes.stream().filter(c -> c.rumourContra > 0).count();
        return what < 0 || what > 6 ? -1 : new int[] {world.causes.size(), world.deeds.size(), world.clerks.size(),
            rumours, world.n, world.m, tape.length()}[what];
    }
}
