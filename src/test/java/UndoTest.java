/** Promises 19 and 20: settings, and undo. */
public final class UndoTest {
    private static final int[] LEAST = {1, 1, 0, 0};
    private static final int[] MOST = {16, 16, 30, 99};
    private static final int[] AT_FIRST = {6, 10, 2, 5};

    public static void main(String[] args) {
        Trial.runAll(UndoTest.class);
    }

    // ---- promise 19: set

    private static String set(int what, int v) {
        return "set(" + what + ", " + v + ")";
    }

    // "0: slots in a row, 1 to 16; 1: slots a day, 1 to 16; 2: the days for a transcript, 0 to 30; 3: the fine, 0 to 99"
    static void promise19TheLeastAndTheMost() {
        for (int what = 0; what < 4; what++) {
            Trial.run(set(what, LEAST[what]) + " = " + AT_FIRST[what], "setting(" + what + ") = " + LEAST[what],
                set(what, MOST[what]) + " = " + LEAST[what], "setting(" + what + ") = " + MOST[what]);
        }
    }

    // "IllegalArgumentException if what or v is out of range"
    static void promise19RefusesOtherValues() {
        for (int what = 0; what < 4; what++) {
            Trial.run(set(what, LEAST[what] - 1) + " throws argument", set(what, MOST[what] + 1) + " throws argument",
                set(what, Integer.MIN_VALUE) + " throws argument", set(what, Integer.MAX_VALUE) + " throws argument",
                set(what, MOST[what] + 256) + " throws argument");
        }
    }

    static void promise19RefusesOtherSettings() {
        Trial.run("set(-1, 1) throws argument", "set(4, 1) throws argument", "set(-2147483648, 1) throws argument",
            "set(2147483647, 1) throws argument", "set(4, -1) throws argument");
    }

    // "Returns the previous one."
    static void promise19ReturnsThePreviousOne() {
        Trial.run("set(0, 7) = 6", "set(0, 7) = 7", "set(0, 2) = 7", "settings = 2 10 2 5", "set(1, 4) = 10",
            "set(2, 30) = 2", "set(3, 99) = 5", "settings = 2 4 30 99");
    }

    // "sessions keep their stenographers"
    static void promise19SessionsKeepTheirs() {
        Trial.run("hire(1)", "session(0, 0, 0, 6, 1)", "give(0, 0)", "session(1, 0, 7, 4, 1)", "give(1, 0)", "set(0, 1)",
            "set(1, 1)", "sessions = 0 0 0 6 1 0, 1 0 7 4 1 0", "whyNot(0, 0) = 0");
    }

    /** What is on a desk keeps its day; what comes gets the new one. */
    static void promise19TranscriptsKeepTheirDay() {
        Trial.staff(1).held(0, 0, 0, 0, 16, 9).calls("run(1)", "set(2, 7) = 2", "desk(0) = 144:2").held(0, 0, 1, 0, 16, 9)
            .calls("run(1)", "desk(0) = 144:2 144:8");
    }

    // ---- promise 20: undo

    // "IllegalStateException if none is remembered"
    static void promise20NothingRemembered() {
        Trial.run("undo() throws state");
        Trial.run("hire(1)", "undo() = 0", "undo() throws state", "about(0) = 0");
    }

    // "Returns how many states are still remembered."
    static void promise20ReturnsHowManyAreLeft() {
        Trial.run("hire(1)", "hire(2)", "hire(3)", "undo() = 2", "about(0) = 2", "hire(4)", "hire(5)", "undo() = 3",
            "about(0) = 3", "stenographer(2, 0) = 4", "undo() = 2", "undo() = 1", "undo() = 0", "undo() throws state");
    }

    // "At most 14 states are remembered"
    static void promise20FourteenActions() {
        Trial t = new Trial();
        for (int v = 0; v < 14; v++) {
            t.calls("set(3, " + (50 + v) + ")");
        }
        for (int left = 13; left > 0; left--) {
            t.calls("undo() = " + left, "setting(3) = " + (49 + left));
        }
        t.calls("undo() = 0", "setting(3) = 5", "undo() throws state");
    }

    // "when one more is remembered, the oldest one is forgotten"
    static void promise20FifteenActions() {
        Trial t = new Trial();
        for (int v = 0; v < 15; v++) {
            t.calls("set(3, " + (50 + v) + ")");
        }
        for (int left = 13; left >= 0; left--) {
            t.calls("undo() = " + left, "setting(3) = " + (50 + left));
        }
        t.calls("undo() throws state", "setting(3) = 50");
    }

    static void promise20ManyActions() {
        Trial t = new Trial();
        for (int v = 0; v < 60; v++) {
            t.calls("set(3, " + v + ")");
        }
        t.calls("undo() = 13", "undo() = 12", "setting(3) = 57", "set(3, 70)", "set(3, 71)", "set(3, 72)", "undo() = 13",
            "setting(3) = 71", "undo() = 12", "undo() = 11", "setting(3) = 57").times(10, "undo()").calls("undo() = 0",
            "setting(3) = 46", "undo() throws state");
    }

    private static Trial busy() {
        return new Trial().text("Jn05n09s0000063s0006064s1000055g000").calls("load() = 0");
    }

    private static void takesBack(String... actions) {
        for (String action : actions) {
            Trial t = busy();
            String before = t.present();
            t.calls(action);
            if (t.present().equals(before)) {
                Trial.same(action + " changes", "nothing", "something");
            }
            t.calls("undo() = 0");
            Trial.same("behind undo() of " + action, t.present(), before);
            t.calls("undo() throws state");
        }
    }

    // "Before each action, the state is remembered."
    static void promise20TakesBackEachAction() {
        takesBack("hire(9)", "session(2, 0, 0, 1, 1)", "cancel(1)", "give(0, 1)", "give(0, -1)", "giveAll()",
            "extend(0, 5)", "leave(0, 5)", "leave(1, 30)", "run(1)", "run(30)", "set(0, 9)", "set(1, 9)", "set(2, 9)",
            "set(3, 9)");
    }

    /** Desks, pay, fines and what is done, typed and lost come back too. */
    static void promise20TakesBackDays() {
        Trial t = Trial.staff(1, 3).calls("set(2, 0)").held(0, 0, 0, 0, 16, 9).held(1, 1, 0, 0, 3, 4).held(0, 0, 1, 0, 16, 9)
            .calls("session(1, 1, 0, 9, 9)", "run(1) = 5", "about = 2 2 1 1 1 144 0 46 5 1 12", "run(1) = 10",
                "about = 2 0 2 0 2 288 1 86 15 1 12", "run(10)", "about(9) = 2", "undo() = 13",
                "about = 2 0 2 0 2 288 1 86 15 1 12", "desk(0) = 144:0 144:1", "undo() = 12",
                "about = 2 2 1 1 1 144 0 46 5 1 12", "desk(0) = 144:0", "undo() = 11", "about = 2 4 0 1 0 0 0 0 0 0 0",
                "desk(0) = ");
        t.calls("run(1) = 5", "about = 2 2 1 1 1 144 0 46 5 1 12");
    }

    // "also if nothing becomes different"
    static void promise20ActionsThatChangeNothing() {
        Trial.run("giveAll() = 0", "set(3, 5) = 5", "hire(1)", "leave(0, 0) = 0", "session(0, 0, 0, 16, 1)",
            "give(0, -1) = -1", "giveAll() = 0", "extend(0, 16) = 16", "undo() = 7", "undo() = 6", "undo() = 5",
            "about(1) = 1", "undo() = 4", "about(1) = 0", "undo() = 3", "about(0) = 1", "undo() = 2", "about(0) = 0",
            "undo() = 1", "undo() = 0", "undo() throws state");
    }

    // "(undo is none)"
    static void promise20UndoIsNoAction() {
        Trial.run("hire(1)", "hire(2)", "undo() = 1", "undo() = 0", "undo() throws state", "about(0) = 0");
    }

    // "Each call of one of them that does not throw an exception is an action"
    static void promise20RefusedCallsAreNone() {
        Trial.run("session(0, 0, 0, 7, 1)", "hire(1)", "hire(0) throws argument", "session(0, 0, 0, 1, 1) throws state",
            "cancel(1) throws index", "give(0, 0) throws state", "extend(0, 0) throws argument",
            "leave(0, 31) throws argument", "run(0) throws argument", "set(0, 0) throws argument", "undo() = 1",
            "about(0) = 0", "undo() = 0", "about(1) = 0", "undo() throws state");
    }

    /** A call that throws does not make one state more, of which the oldest one would be forgotten. */
    static void promise20RefusedCallsForgetNothing() {
        Trial t = new Trial();
        for (int v = 0; v < 14; v++) {
            t.calls("set(3, " + (50 + v) + ")");
        }
        t.calls("hire(0) throws argument", "session(5, 0, 0, 1, 1) throws index", "cancel(0) throws index",
            "give(0, -1) throws index", "extend(0, 1) throws index", "leave(0, 1) throws index",
            "run(31) throws argument", "set(4, 0) throws argument", "restore(0) throws state", "load() throws state")
            .times(13, "undo()").calls("undo() = 0", "setting(3) = 5");
    }

    static void promise20AskingIsNoAction() {
        Trial.run("hire(1)", "session(0, 0, 0, 1, 1)", "errorPosition()", "about(0)", "stenographer(0, 0)", "sessionOf(0, 0)",
            "setting(0)", "whyNot(0, 0)", "whom(0)", "coming(60, 0)", "emptyIn(0)", "ifHired(1, 1)", "freeRoom(0, 0, 1)",
            "runScript(1, 30000)", "simulate(1, 60)", "undo() = 1", "undo() = 0", "undo() throws state");
    }

    static void promise20TextAndSavingAreNoActions() {
        Trial.run("hire(1)", "append(74)", "clearText()", "append(74)", "save(0)", "save(1)", "undo() = 0",
            "undo() throws state");
    }

    // "the state, which consists of everything but the text and the save slots"
    static void promise20KeepsTheText() {
        new Trial().text("Jn0").calls("hire(1)", "append(53) = 4", "undo() = 0", "errorPosition() = -1", "clearText() = 4",
            "hire(1)", "undo() = 0", "clearText() = 0");
    }

    static void promise20KeepsTheSaveSlots() {
        Trial.run("hire(1)", "run(3)", "save(0) = 3", "undo() = 1", "undo() = 0", "save(1) = 0", "restore(0) = 3",
            "about(0) = 1", "restore(1) = 0", "about(0) = 0");
        Trial.run("save(0) = 0", "run(3)", "save(1) = 3", "undo() = 0", "restore(1) = 3", "restore(0) = 0");
    }
}
