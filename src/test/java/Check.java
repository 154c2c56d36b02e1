/** What the tests share: comparing answers, expecting exceptions, and reading all that an object tells. */
final class Check {
    interface Call {
        int answer();
    }

    private static final String NOTHING = "nothing";

    private static int wrong = 0;

    private Check() {
    }

    static void is(String what, long got, long due) {
        if (got != due) {
            fail(what + " answered " + got + ", due is " + due);
        }
    }

    static void same(String what, String got, String due) {
        if (!got.equals(due)) {
            fail(what + " is\n  " + got + "\ndue is\n  " + due);
        }
    }

    /** The call throws exactly this exception, and changes nothing. */
    static void refuses(String what, StenoRooms x, Class<?> due, Call call) {
        String before = state(x);
        String thrown = thrownBy(call);
        if (!thrown.equals(due.getName())) {
            fail(what + " threw " + thrown + ", due is " + due.getName());
        }
        same("the state behind " + what, state(x), before);
    }

    static void index(String what, StenoRooms x, Call call) {
        refuses(what, x, IndexOutOfBoundsException.class, call);
    }

    static void argument(String what, StenoRooms x, Call call) {
        refuses(what, x, IllegalArgumentException.class, call);
    }

    static void notNow(String what, StenoRooms x, Call call) {
        refuses(what, x, IllegalStateException.class, call);
    }

    /** The call answers this, and changes nothing. */
    static void tells(String what, StenoRooms x, int due, Call call) {
        String before = state(x);
        is(what, call.answer(), due);
        same("the state behind " + what, state(x), before);
    }

    private static String thrownBy(Call call) {
        try {
            call.answer();
            return NOTHING;
        } catch (RuntimeException e) {
            return e.getClass().getName();
        }
    }

    private static void fail(String message) {
        wrong++;
        System.out.println(message);
    }

    static void end(String test) {
        System.out.println(test + ": " + (wrong == 0 ? "all as due" : wrong + " not as due"));
        if (wrong != 0) {
            System.exit(1);
        }
    }

    /** All that the queries tell of an object. */
    static String state(StenoRooms x) {
        StringBuilder s = new StringBuilder("about");
        for (int what = 0; what <= 10; what++) {
            s.append(' ').append(x.about(what));
        }
        s.append(" settings");
        for (int what = 0; what <= 3; what++) {
            s.append(' ').append(x.setting(what));
        }
        for (int p = 0; p < x.about(0); p++) {
            s.append(" stenographer");
            for (int what = 0; what <= 6; what++) {
                s.append(' ').append(x.stenographer(p, what));
            }
            s.append(" desk ").append(desk(x, p));
        }
        for (int k = 0; k < x.about(1); k++) {
            s.append(" session ").append(session(x, k));
        }
        return s.append(" error ").append(x.errorPosition()).toString();
    }

    static String session(StenoRooms x, int k) {
        StringBuilder s = new StringBuilder();
        for (int what = 0; what <= 5; what++) {
            s.append(what == 0 ? "" : " ").append(x.sessionOf(k, what));
        }
        return s.toString();
    }

    static String sessions(StenoRooms x) {
        StringBuilder s = new StringBuilder();
        for (int k = 0; k < x.about(1); k++) {
            s.append(k == 0 ? "" : ", ").append(session(x, k));
        }
        return s.toString();
    }

    /** The transcripts on a desk as pages:due. */
    static String desk(StenoRooms x, int p) {
        StringBuilder s = new StringBuilder();
        for (int i = 0; i < x.stenographer(p, 3); i++) {
            s.append(i == 0 ? "" : " ").append(x.transcript(p, i, 0)).append(':').append(x.transcript(p, i, 1));
        }
        return s.toString();
    }

    /** What about() tells of the numbers from first to last. */
    static String about(StenoRooms x, int first, int last) {
        StringBuilder s = new StringBuilder();
        for (int what = first; what <= last; what++) {
            s.append(what == first ? "" : " ").append(x.about(what));
        }
        return s.toString();
    }

    static void write(StenoRooms x, String text) {
        x.clearText();
        for (int i = 0; i < text.length(); i++) {
            x.append(text.charAt(i));
        }
    }

    static StenoRooms loaded(String text) {
        StenoRooms x = new StenoRooms();
        write(x, text);
        is("commands left out of " + text, x.load(), 0);
        return x;
    }

    /** Stenographers of these speeds, who may have sessions in all slots of a day. */
    static StenoRooms staff(int... speeds) {
        StenoRooms x = new StenoRooms();
        for (int speed : speeds) {
            x.hire(speed);
        }
        x.set(0, 16);
        x.set(1, 16);
        return x;
    }

    /** Adds a session and gives it. */
    static void held(StenoRooms x, int p, int room, int day, int first, int slots, int talk) {
        x.give(x.session(room, day, first, slots, talk), p);
    }

    /** How many states are remembered; takes all of them back. */
    static int undoAll(StenoRooms x) {
        for (int n = 0; n <= 100; n++) {
            if (thrownBy(x::undo).equals(IllegalStateException.class.getName())) {
                return n;
            }
        }
        return -1;
    }
}
