import java.util.ArrayList;
import java.util.Comparator;
import java.util.List;

/**
 * The document once more, in its own words and with the Java library, for comparison with the program.
 * Each call throws what the document says; copies are made by copying everything.
 */
final class Model {
    private static final int NONE = -1;

    private static final class Sitting {
        int room;
        int day;
        int first;
        int slots;
        int talk;
        Clerk clerk;

        boolean has(int slot) {
            return slot >= first && slot < first + slots;
        }

        boolean meets(Sitting other) {
            for (int slot = 0; slot < 16; slot++) {
                if (day == other.day && has(slot) && other.has(slot)) {
                    return true;
                }
            }
            return false;
        }
    }

    private static final class Paper {
        int pages;
        int due;
    }

    private static final class Clerk {
        int speed;
        int leaveUpTo;
        int pay;
        final List<Paper> desk = new ArrayList<>();

        int pages() {
            return desk.stream().mapToInt(t -> t.pages).sum();
        }
    }

    private static final class State {
        int today;
        final List<Clerk> clerks = new ArrayList<>();
        List<Sitting> sittings = new ArrayList<>();
        int[] settings = {6, 10, 2, 5};
        int lost;
        int fines;
        int done;
        int typed;

        State copied() {
            State s = new State();
            s.today = today;
            s.settings = settings.clone();
            s.lost = lost;
            s.fines = fines;
            s.done = done;
            s.typed = typed;
            for (Clerk c : clerks) {
                Clerk d = new Clerk();
                d.speed = c.speed;
                d.leaveUpTo = c.leaveUpTo;
                d.pay = c.pay;
                for (Paper t : c.desk) {
                    Paper u = new Paper();
                    u.pages = t.pages;
                    u.due = t.due;
                    d.desk.add(u);
                }
                s.clerks.add(d);
            }
            for (Sitting a : sittings) {
                Sitting b = new Sitting();
                b.room = a.room;
                b.day = a.day;
                b.first = a.first;
                b.slots = a.slots;
                b.talk = a.talk;
                b.clerk = a.clerk == null ? null : s.clerks.get(clerks.indexOf(a.clerk));
                s.sittings.add(b);
            }
            return s;
        }

        void sort() {
            sittings.sort(Comparator.<Sitting>comparingInt(s -> s.day).thenComparingInt(s -> s.first)
                .thenComparingInt(s -> s.room));
        }

        boolean works(Clerk c, int day, int slot) {
            return sittings.stream().anyMatch(s -> s.clerk == c && s.day == day && s.has(slot));
        }

        int slotsOf(Clerk c, int day) {
            return sittings.stream().filter(s -> s.clerk == c && s.day == day).mapToInt(s -> s.slots).sum();
        }

        int pay() {
            return clerks.stream().mapToInt(c -> c.pay).sum();
        }

        int papers() {
            return clerks.stream().mapToInt(c -> c.desk.size()).sum();
        }

        int withoutClerk() {
            return (int) sittings.stream().filter(s -> s.clerk == null).count();
        }
    }

    private final StringBuilder text = new StringBuilder();
    private State state = new State();
    private final List<State> past = new ArrayList<>();
    private final State[] slots = new State[2];

    // ---- text

    int append(int c) {
        argument(c >= 0 && c <= 255);
        now(text.length() < 120);
        text.append((char) c);
        return text.length();
    }

    int clearText() {
        int n = text.length();
        text.setLength(0);
        return n;
    }

    /** Tells for every beginning of the text whether a calendar can begin so. */
    int errorPosition() {
        String form = "J(n(0[1-9]|1[0-9]|20)|s[0-4][0-9](0[0-9]|1[0-5])(0[1-9]|1[0-6])[1-9]|g(0[0-9]|1[0-5])[0-5]|a|d[1-9])*";
        java.util.regex.Matcher m = java.util.regex.Pattern.compile(form, java.util.regex.Pattern.DOTALL).matcher("");
        for (int n = 1; n <= text.length(); n++) {
            m.reset(text.substring(0, n));
            if (!m.matches() && !m.hitEnd()) {
                return n - 1;
            }
        }
        return m.reset(text).matches() ? NONE : text.length();
    }

    int load() {
        now(errorPosition() == NONE);
        state = new State();
        past.clear();
        slots[0] = null;
        slots[1] = null;
        int out = 0;
        int at = 1;
        while (at < text.length()) {
            int length = new int[] {1, 2, 3, 4, 8}["adngs".indexOf(text.charAt(at))];
            String word = text.substring(at, at + length);
            at += length;
            out += succeeds(() -> command(state, word)) ? 0 : 1;
        }
        return out;
    }

    private static void command(State s, String word) {
        switch (word.charAt(0)) {
            case 'a': giveAll(s); break;
            case 'd': run(s, number(word, 1, 2)); break;
            case 'n': hire(s, number(word, 1, 3)); break;
            case 'g': give(s, number(word, 1, 3), number(word, 3, 4)); break;
            default: session(s, number(word, 1, 2), number(word, 2, 3), number(word, 3, 5), number(word, 5, 7),
                number(word, 7, 8));
        }
    }

    private static int number(String word, int from, int to) {
        return Integer.parseInt(word.substring(from, to));
    }

    // ---- what there is

    int about(int what) {
        argument(what >= 0 && what <= 10);
        State s = state;
        int pages = s.clerks.stream().mapToInt(Clerk::pages).sum();
        return new int[] {s.clerks.size(), s.sittings.size(), s.today, s.withoutClerk(), s.papers(), pages, s.lost,
            s.pay(), s.fines, s.done, s.typed}[what];
    }

    int stenographer(int p, int what) {
        Clerk c = clerk(state, p);
        argument(what >= 0 && what <= 6);
        int sessions = (int) state.sittings.stream().filter(s -> s.clerk == c).count();
        return new int[] {c.speed, c.leaveUpTo, sessions, c.desk.size(), c.pages(), state.slotsOf(c, state.today),
            c.pay}[what];
    }

    int sessionOf(int k, int what) {
        Sitting s = sitting(state, k);
        argument(what >= 0 && what <= 5);
        return new int[] {s.room, s.day, s.first, s.slots, s.talk, state.clerks.indexOf(s.clerk)}[what];
    }

    int transcript(int p, int i, int what) {
        Clerk c = clerk(state, p);
        there(i >= 0 && i < c.desk.size());
        argument(what == 0 || what == 1);
        return what == 0 ? c.desk.get(i).pages : c.desk.get(i).due;
    }

    int setting(int what) {
        argument(what >= 0 && what <= 3);
        return state.settings[what];
    }

    // ---- actions: each is tried on a copy, which becomes the state if nothing was thrown

    private interface Act {
        int on(State s);
    }

    private int action(Act act) {
        State before = state.copied();
        State after = state.copied();
        int answer = act.on(after);
        past.add(before);
        if (past.size() > 14) {
            past.remove(0);
        }
        state = after;
        return answer;
    }

    int hire(int speed) {
        return action(s -> hire(s, speed));
    }

    int session(int room, int day, int first, int n, int talk) {
        return action(s -> session(s, room, day, first, n, talk));
    }

    int cancel(int k) {
        return action(s -> {
            s.sittings.remove(sitting(s, k));
            return s.sittings.size();
        });
    }

    int give(int k, int p) {
        return action(s -> give(s, k, p));
    }

    int giveAll() {
        return action(Model::giveAll);
    }

    int extend(int k, int n) {
        return action(s -> extend(s, k, n));
    }

    int leave(int p, int days) {
        return action(s -> leave(s, p, days));
    }

    int run(int n) {
        return action(s -> run(s, n));
    }

    int set(int what, int v) {
        return action(s -> {
            argument(what >= 0 && what <= 3);
            argument(v >= (what < 2 ? 1 : 0) && v <= new int[] {16, 16, 30, 99}[what]);
            int old = s.settings[what];
            s.settings[what] = v;
            return old;
        });
    }

    int undo() {
        now(!past.isEmpty());
        state = past.remove(past.size() - 1);
        return past.size();
    }

    // ---- what would be

    int whyNot(int k, int p) {
        Sitting s = sitting(state, k);
        Clerk c = clerk(state, p);
        return s.clerk == c ? 0 : reason(state, s, c);
    }

    int whom(int k) {
        sitting(state, k);
        State s = state.copied();
        s.sittings.get(k).clerk = null;
        return s.clerks.indexOf(best(s, s.sittings.get(k)));
    }

    int coming(int n, int what) {
        argument(n >= 1 && n <= 60 && what >= 0 && what <= 3);
        State s = state.copied();
        for (int i = 0; i < n; i++) {
            day(s);
        }
        return new int[] {s.lost - state.lost, s.pay() - state.pay(), s.fines - state.fines, s.papers()}[what];
    }

    int emptyIn(int p) {
        clerk(state, p);
        State s = state.copied();
        int days = 0;
        while (!s.clerks.get(p).desk.isEmpty()) {
            if (days == 60) {
                return NONE;
            }
            day(s);
            days++;
        }
        return days;
    }

    int ifHired(int speed, int n) {
        argument(speed >= 1 && speed <= 20 && n >= 1 && n <= 30);
        now(state.clerks.size() < 6);
        State without = state.copied();
        giveAll(without);
        State with = state.copied();
        hire(with, speed);
        giveAll(with);
        return run(without, n) - run(with, n);
    }

    int freeRoom(int day, int first, int n) {
        place(state, day, first, n);
        for (int room = 0; room < 5; room++) {
            if (!taken(state, room, day, first, n)) {
                return room;
            }
        }
        return NONE;
    }

    // ---- scripts, simulations

    int runScript(int n, long script) {
        argument(n >= 1 && n <= 3);
        argument(script >= 0 && Long.toString(script).length() <= 5 * n);
        String digits = "0".repeat(5 * n - Long.toString(script).length()) + script;
        State s = state.copied();
        for (int i = 0; i < n; i++) {
            String group = digits.substring(5 * i, 5 * i + 5);
            if (!succeeds(() -> script(s, group))) {
                return i;
            }
        }
        return NONE;
    }

    /** Throws something if the command fails. */
    private static void script(State s, String g) {
        int d2 = number(g, 1, 2);
        int d4 = number(g, 3, 4);
        int d23 = number(g, 1, 3);
        int d45 = number(g, 3, 5);
        now(g.matches("1....|2...0|30000|4....|5.0..|600..|700..|8...0|9...0"));
        switch (g.charAt(0)) {
            case '1': session(s, d2, s.today, number(g, 2, 4), number(g, 4, 5), 3); break;
            case '2': give(s, d23, d4); break;
            case '3': giveAll(s); break;
            case '4': extend(s, d23, d45); break;
            case '5': leave(s, d2, d45); break;
            case '6': run(s, d45); break;
            case '7': now(s.withoutClerk() <= d45); break;
            case '8': now(clerk(s, d2).desk.size() <= number(g, 2, 4)); break;
            default: now(sitting(s, d23).clerk == clerk(s, d4));
        }
    }

    int simulate(long seed, int m) {
        argument(m >= 1 && m <= 60);
        State s = state.copied();
        long x = seed;
        for (int i = 0; i < m; i++) {
            x = x * 6364136223846793005L + 1442695040888963407L;
            int r = (int) (x >>> 33);
            succeeds(() -> turn(s, r % 8, r / 8));
        }
        return 1000 * (s.lost - state.lost) + s.papers();
    }

    private static void turn(State s, int kind, int q) {
        switch (kind) {
            case 3: giveAll(s); break;
            case 4: extend(s, q % 16, 1 + q / 16 % 4); break;
            case 5: leave(s, q % 6, q / 6 % 4); break;
            case 6: give(s, q % 16, q / 16 % 6); break;
            case 7: run(s, 1); break;
            default: session(s, q % 5, s.today + q / 5 % 4, q / 20 % 16, 1 + q / 320 % 5, 1 + q / 1600 % 9);
        }
    }

    // ---- save slots

    int save(int slot) {
        there(slot == 0 || slot == 1);
        slots[slot] = state.copied();
        return state.today;
    }

    int restore(int slot) {
        there(slot == 0 || slot == 1);
        now(slots[slot] != null);
        state = slots[slot].copied();
        past.clear();
        return state.today;
    }

    // ---- the document's rules

    private static void there(boolean right) {
        if (!right) {
            throw new IndexOutOfBoundsException();
        }
    }

    private static void argument(boolean right) {
        if (!right) {
            throw new IllegalArgumentException();
        }
    }

    private static void now(boolean right) {
        if (!right) {
            throw new IllegalStateException();
        }
    }

    private static boolean succeeds(Runnable command) {
        try {
            command.run();
            return true;
        } catch (IllegalArgumentException | IllegalStateException | IndexOutOfBoundsException e) {
            return false;
        }
    }

    private static Clerk clerk(State s, int p) {
        there(p >= 0 && p < s.clerks.size());
        return s.clerks.get(p);
    }

    private static Sitting sitting(State s, int k) {
        there(k >= 0 && k < s.sittings.size());
        return s.sittings.get(k);
    }

    private static void place(State s, int day, int first, int n) {
        argument(day >= s.today && day <= 999);
        argument(first >= 0 && first <= 15);
        argument(n >= 1 && n <= 16 - first);
    }

    private static boolean taken(State s, int room, int day, int first, int n) {
        Sitting wanted = new Sitting();
        wanted.day = day;
        wanted.first = first;
        wanted.slots = n;
        return s.sittings.stream().anyMatch(a -> a.room == room && a.meets(wanted));
    }

    private static int hire(State s, int speed) {
        argument(speed >= 1 && speed <= 20);
        now(s.clerks.size() < 6);
        Clerk c = new Clerk();
        c.speed = speed;
        s.clerks.add(c);
        return s.clerks.size() - 1;
    }

    private static int session(State s, int room, int day, int first, int n, int talk) {
        there(room >= 0 && room <= 4);
        place(s, day, first, n);
        argument(talk >= 1 && talk <= 9);
        now(s.sittings.size() < 16 && !taken(s, room, day, first, n));
        Sitting a = new Sitting();
        a.room = room;
        a.day = day;
        a.first = first;
        a.slots = n;
        a.talk = talk;
        s.sittings.add(a);
        s.sort();
        return s.sittings.indexOf(a);
    }

    private static int give(State s, int k, int p) {
        Sitting a = sitting(s, k);
        Clerk c = p == NONE ? null : clerk(s, p);
        now(c == null || a.clerk == c || reason(s, a, c) == 0);
        int old = s.clerks.indexOf(a.clerk);
        a.clerk = c;
        return old;
    }

    private static int reason(State s, Sitting a, Clerk c) {
        if (a.day < c.leaveUpTo) {
            return 1;
        }
        if (s.sittings.stream().anyMatch(b -> b != a && b.clerk == c && b.meets(a))) {
            return 2;
        }
        int row = 0;
        int most = 0;
        int all = 0;
        for (int slot = 0; slot < 16; slot++) {
            boolean busy = a.has(slot) || s.works(c, a.day, slot);
            row = busy ? row + 1 : 0;
            most = Math.max(most, row);
            all += busy ? 1 : 0;
        }
        if (most > s.settings[0]) {
            return 3;
        }
        return all > s.settings[1] ? 4 : 0;
    }

    private static Clerk best(State s, Sitting a) {
        return s.clerks.stream().filter(c -> reason(s, a, c) == 0)
            .min(Comparator.<Clerk>comparingInt(c -> s.slotsOf(c, a.day)).thenComparingInt(Clerk::pages)
                .thenComparingInt(c -> s.clerks.indexOf(c)))
            .orElse(null);
    }

    private static int giveAll(State s) {
        int given = 0;
        for (Sitting a : s.sittings) {
            if (a.clerk == null) {
                a.clerk = best(s, a);
                given += a.clerk == null ? 0 : 1;
            }
        }
        return given;
    }

    private static int extend(State s, int k, int n) {
        Sitting a = sitting(s, k);
        argument(n >= 1 && n <= 16);
        for (int i = 0; i < n && a.first + a.slots < 16; i++) {
            a.slots++;
        }
        Sitting before = a;
        for (Sitting b : new ArrayList<>(s.sittings.subList(k + 1, s.sittings.size()))) {
            if (b.room == a.room && b.day == a.day) {
                if (b.first < before.first + before.slots) {
                    b.first = before.first + before.slots;
                    b.clerk = null;
                    while (b.first + b.slots > 16) {
                        b.slots--;
                    }
                }
                if (b.slots == 0) {
                    s.sittings.remove(b);
                } else {
                    before = b;
                }
            }
        }
        s.sort();
        for (Sitting b : s.sittings) {
            if (b != a && b.clerk == a.clerk && b.meets(a)) {
                b.clerk = null;
            }
        }
        return a.slots;
    }

    private static int leave(State s, int p, int days) {
        Clerk c = clerk(s, p);
        argument(days >= 0 && days <= 30);
        c.leaveUpTo = s.today + days;
        int freed = 0;
        for (Sitting a : s.sittings) {
            if (a.clerk == c && a.day < c.leaveUpTo) {
                a.clerk = null;
                freed++;
            }
        }
        return freed;
    }

    private static int run(State s, int n) {
        argument(n >= 1 && n <= 30);
        int before = s.fines;
        for (int i = 0; i < n; i++) {
            day(s);
        }
        return s.fines - before;
    }

    private static void day(State s) {
        boolean[][] busy = new boolean[s.clerks.size()][16];
        for (int p = 0; p < s.clerks.size(); p++) {
            int held = 0;
            for (int slot = 0; slot < 16; slot++) {
                busy[p][slot] = s.works(s.clerks.get(p), s.today, slot);
                if (busy[p][slot]) {
                    held++;
                    s.clerks.get(p).pay += held <= 8 ? 2 : 3;
                }
            }
        }
        while (!s.sittings.isEmpty() && s.sittings.get(0).day == s.today) {
            Sitting a = s.sittings.remove(0);
            if (a.clerk == null) {
                s.lost++;
            } else {
                Paper t = new Paper();
                t.pages = a.slots * a.talk;
                t.due = s.today + s.settings[2];
                a.clerk.desk.add(t);
            }
        }
        for (int p = 0; p < s.clerks.size(); p++) {
            Clerk c = s.clerks.get(p);
            for (int slot = 0; slot < 16; slot++) {
                for (int page = 0; page < c.speed && s.today >= c.leaveUpTo && !busy[p][slot]; page++) {
                    typePage(s, c);
                }
            }
        }
        for (Clerk c : s.clerks) {
            for (Paper t : c.desk) {
                s.fines += t.due <= s.today ? s.settings[3] : 0;
            }
        }
        s.today++;
    }

    private static void typePage(State s, Clerk c) {
        Paper next = c.desk.stream().min(Comparator.comparingInt(t -> t.due)).orElse(null);
        if (next != null) {
            next.pages--;
            s.typed++;
            if (next.pages == 0) {
                c.desk.remove(next);
                s.done++;
            }
        }
    }
}
