import java.util.Random;

/** All promises: long runs of calls, the same ones every time, answered by the program and by Model. */
public final class ModelTest {
    private static final int CALLS = 512;

    /** Words of which the texts are made. */
    private static final String[] WORDS = {"n05", "n20", "n01", "n12", "s0000063", "s1002045", "s2108089", "s0010044",
        "s3100161", "s4205037", "s0115018", "g000", "g010", "g021", "g032", "g100", "a", "a", "d1", "d2", "s1400152"};

    private final Random random;
    private final StenoRooms program = new StenoRooms();
    private final Model model = new Model();
    private final StringBuilder log = new StringBuilder();
    private String toWrite = "";
    private int calls = 0;

    private ModelTest(long seed) {
        random = new Random(seed);
    }

    public static void main(String[] args) {
        int runs = args.length > 0 ? Integer.parseInt(args[0]) : 600;
        int wrong = 0;
        for (int seed = 0; seed < runs && wrong < 3; seed++) {
            wrong += new ModelTest(seed).agrees(seed % 6) ? 0 : 1;
        }
        for (int kind = 0; kind < 3; kind++) {
            wrong += new ModelTest(kind).manyTranscripts(kind) ? 0 : 1;
        }
        System.out.println("ModelTest: " + (wrong == 0 ? "all as due" : wrong + " runs not as due"));
        if (wrong != 0) {
            System.exit(1);
        }
    }

    /** Kind 0 mostly asks, 1 mostly adds sessions, 2 to 4 are full of slow work, 5 begins with nothing and writes texts. */
    private boolean agrees(int kind) {
        boolean same = true;
        if (kind != 5) {
            same = call("hire", 1 + below(20)) && call("hire", 1 + below(4)) && call("set", 0, 4 + below(13));
        }
        if (kind >= 2 && kind <= 4) {
            same = same && call("set", 1, 8 + below(9)) && call("set", 2, below(4)) && call("set", 3, 1 + below(99));
        }
        while (same && calls < CALLS) {
            switch (kind) {
                case 0: same = below(6) > 0 ? query() : step(); break;
                case 1: same = below(3) > 0 ? call("session", sessionArguments()) : step(); break;
                case 5: same = below(8) == 0 ? textStep() : step(); break;
                default: same = below(3) > 0 ? work() : step(); break;
            }
        }
        if (!same) {
            System.out.println(log);
        }
        return same;
    }

    /** Long sessions, mostly given, and days that go by. */
    private boolean work() {
        int today = model.about(2);
        switch (below(12)) {
            case 0: return call("giveAll");
            case 1: return call("run", 1);
            case 2: return call("give", near(model.about(1)), near(model.about(0)));
            case 3: return call("extend", near(model.about(1)), 1 + below(4));
            case 4: return query();
            case 5: return deskQuery();
            default:
                int first = below(16);
                int slots = Math.min(16 - first, 1 + below(7));
                return call("session", below(5), today + below(2) * below(4), first, slots, 5 + below(5));
        }
    }

    private boolean deskQuery() {
        switch (below(4)) {
            case 0: return call("emptyIn", near(model.about(0)));
            case 1: return call("ifHired", 1 + near(20), 1 + near(30));
            case 2: return call("coming", 1 + near(60), near(4));
            default: return everything();
        }
    }

    /** As many transcripts as 512 calls can bring: they are never typed. */
    private boolean manyTranscripts(int kind) {
        boolean same = call("hire", 1) && call("set", 0, 16) && call("set", 1, 16) && call("set", 2, 0);
        while (same && calls < CALLS - 40) {
            int today = model.about(2);
            same = call("leave", 0, 0);
            for (int i = 0; same && i < 16; i++) {
                same = call("session", kind == 1 ? i % 5 : 0, today, i, 1, 9);
            }
            same = same && call("giveAll") && call("run", 1);
            if (kind == 2) {
                same = same && call("save", below(2)) && call("coming", 60, below(4)) && call("simulate", below(99), 60);
            }
        }
        while (same && calls < CALLS) {
            same = query();
        }
        if (!same) {
            System.out.println(log);
        }
        return same;
    }

    private int below(int n) {
        return random.nextInt(n);
    }

    /** Mostly a number below n, now and then one that is not. */
    private int near(int n) {
        int dice = below(120);
        return dice == 0 ? -1 : dice == 1 ? n : dice == 2 ? odd() : below(Math.max(n, 1));
    }

    private int odd() {
        int[] odd = {Integer.MIN_VALUE, Integer.MAX_VALUE, -2, 1000, 16, 17, 31, 999, 1 << 16};
        return odd[below(odd.length)];
    }

    private long[] sessionArguments() {
        int today = model.about(2);
        int first = near(16);
        return new long[] {near(5), below(30) == 0 ? odd() : today + below(4) - (below(40) == 0 ? 1 : 0), first,
            below(20) == 0 ? 17 - first : 1 + near(below(3) == 0 ? 16 - (first & 15) : 5), 1 + near(9)};
    }

    private boolean step() {
        int staff = model.about(0);
        int sessions = model.about(1);
        switch (below(16)) {
            case 0: return call("hire", 1 + near(20));
            case 1:
            case 2:
            case 3: return call("session", sessionArguments());
            case 4: return below(3) > 0 || call("cancel", near(sessions));
            case 5: return call("give", near(sessions), below(6) == 0 ? -1 : near(staff));
            case 6: return call("giveAll");
            case 7: return call("extend", near(sessions), 1 + near(below(3) == 0 ? 16 : 3));
            case 8: return below(3) > 0 || call("leave", near(staff), near(below(5) == 0 ? 31 : 4));
            case 9: return call("run", below(30) == 0 ? 1 + near(30) : 1);
            case 10: return call("set", near(4), below(3) == 0 ? near(100) : near(17));
            case 11: return below(2) > 0 || call("undo");
            case 12: return below(4) > 0 || call(below(2) == 0 ? "save" : "restore", near(2));
            case 13: return below(6) > 0 || textStep();
            default: return query();
        }
    }

    private boolean textStep() {
        if (toWrite.isEmpty()) {
            StringBuilder s = new StringBuilder("J");
            for (int i = below(14); i > 0; i--) {
                s.append(WORDS[below(WORDS.length)]);
            }
            if (below(3) == 0) {
                s.setCharAt(below(s.length()), "Jnsgad0123456789 ".charAt(below(17)));
            }
            if (below(5) == 0) {
                s.setLength(below(s.length() + 1));
            }
            toWrite = s.toString();
            return call("clearText");
        }
        boolean same = true;
        for (int i = 0; same && i < toWrite.length(); i++) {
            same = call("append", below(300) == 0 ? odd() : toWrite.charAt(i))
                && (below(8) > 0 || call("errorPosition"));
        }
        toWrite = "";
        return same && call("errorPosition") && (below(3) > 0 || call("load"));
    }

    private boolean query() {
        int staff = model.about(0);
        int sessions = model.about(1);
        switch (below(15)) {
            case 0: return call("about", near(11));
            case 1: return call("stenographer", near(staff), near(7));
            case 2: return call("sessionOf", near(sessions), near(6));
            case 3:
                int p = near(staff);
                return call("transcript", p, near(p >= 0 && p < staff ? model.stenographer(p, 3) : 1), near(2));
            case 4: return call("setting", near(4));
            case 5: return call("whyNot", near(sessions), near(staff));
            case 6: return call("whom", near(sessions));
            case 7: return call("coming", 1 + near(60), near(4));
            case 8: return call("emptyIn", near(staff));
            case 9: return call("ifHired", 1 + near(20), 1 + near(30));
            case 10: return call("freeRoom", model.about(2) + near(4), near(16), 1 + near(16));
            case 11:
            case 12: return scriptCall();
            case 13: return call("simulate", random.nextLong(), 1 + near(60));
            default: return everything();
        }
    }

    private boolean scriptCall() {
        int n = 1 + near(3);
        long script = 0;
        for (int i = 0; i < (n >= 1 && n <= 3 ? n : 2); i++) {
            script = script * 100000 + group();
        }
        return call("runScript", n, below(30) == 0 ? random.nextLong() : script);
    }

    private long group() {
        int staff = Math.max(model.about(0), 1);
        int k = below(17);
        int p = below(staff + 1);
        switch (below(11)) {
            case 1: return 10000 + 1000 * below(6) + 10 * below(17) + below(7);
            case 2: return 20000 + 100 * k + 10 * p + (below(9) == 0 ? 1 : 0);
            case 3: return 30000 + (below(9) == 0 ? 10 : 0);
            case 4: return 40000 + 100 * k + below(18);
            case 5: return 50000 + 1000 * p + below(33) + (below(9) == 0 ? 100 : 0);
            case 6: return 60000 + below(4) + (below(9) == 0 ? 30 : 0);
            case 7: return 70000 + below(17);
            case 8: return 80000 + 1000 * p + 10 * below(20) + (below(9) == 0 ? 1 : 0);
            case 9: return 90000 + 100 * k + 10 * p + (below(9) == 0 ? 1 : 0);
            default: return below(100000);
        }
    }

    /** All stenographers, sessions and transcripts, as far as the calls go. */
    private boolean everything() {
        boolean same = true;
        for (int what = 0; same && what <= 10; what++) {
            same = call("about", what);
        }
        for (int k = 0; same && k < model.about(1); k++) {
            for (int what = 0; same && what <= 5; what++) {
                same = call("sessionOf", k, what);
            }
        }
        for (int p = 0; same && p < model.about(0); p++) {
            same = call("stenographer", p, below(7));
            for (int i = 0; same && i < model.stenographer(p, 3); i++) {
                same = call("transcript", p, i, 0) && call("transcript", p, i, 1);
            }
        }
        return same;
    }

    /** Makes a call on both; whether their answers are the same. */
    private boolean call(String name, long... v) {
        if (calls >= CALLS) {
            return true;
        }
        calls++;
        Call call = Call.of(name, v);
        String got = call.answer(program);
        String due = onModelOrException(name, v);
        log.append(call).append(" = ").append(got).append('\n');
        if (!got.equals(due)) {
            log.append("  due is ").append(due);
        }
        return got.equals(due);
    }

    private String onModelOrException(String name, long[] v) {
        try {
            return Integer.toString(onModel(name, v));
        } catch (RuntimeException e) {
            return Call.exception(e);
        }
    }

    private int onModel(String name, long[] w) {
        Model x = model;
        int[] v = ints(w);
        switch (name) {
            case "append": return x.append(v[0]);
            case "clearText": return x.clearText();
            case "errorPosition": return x.errorPosition();
            case "load": return x.load();
            case "about": return x.about(v[0]);
            case "stenographer": return x.stenographer(v[0], v[1]);
            case "sessionOf": return x.sessionOf(v[0], v[1]);
            case "transcript": return x.transcript(v[0], v[1], v[2]);
            case "setting": return x.setting(v[0]);
            case "hire": return x.hire(v[0]);
            case "session": return x.session(v[0], v[1], v[2], v[3], v[4]);
            case "cancel": return x.cancel(v[0]);
            case "give": return x.give(v[0], v[1]);
            case "giveAll": return x.giveAll();
            case "extend": return x.extend(v[0], v[1]);
            case "leave": return x.leave(v[0], v[1]);
            case "run": return x.run(v[0]);
            case "set": return x.set(v[0], v[1]);
            case "undo": return x.undo();
            case "whyNot": return x.whyNot(v[0], v[1]);
            case "whom": return x.whom(v[0]);
            case "coming": return x.coming(v[0], v[1]);
            case "emptyIn": return x.emptyIn(v[0]);
            case "ifHired": return x.ifHired(v[0], v[1]);
            case "freeRoom": return x.freeRoom(v[0], v[1], v[2]);
            case "runScript": return x.runScript(v[0], w[1]);
            case "simulate": return x.simulate(w[0], v[1]);
            case "save": return x.save(v[0]);
            case "restore": return x.restore(v[0]);
            default: throw new AssertionError(name);
        }
    }

    private static int[] ints(long[] w) {
        int[] v = new int[w.length];
        for (int i = 0; i < w.length; i++) {
            v[i] = (int) w[i];
        }
        return v;
    }
}
