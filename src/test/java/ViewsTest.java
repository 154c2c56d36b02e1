/** Promise 1 and promises 6 to 10: a new object, and what there is. */
public final class ViewsTest {
    private static final String NEW = "about = 0 0 0 0 0 0 0 0 0 0 0";

    public static void main(String[] args) {
        Trial.runAll(ViewsTest.class);
    }

    // ---- promise 1: a new object

    static void promise1NoneIsMinus1() {
        Trial.same("NONE", StenoRooms.NONE, -1);
    }

    // "Creates a calendar without stenographers and sessions."
    static void promise1HasNothing() {
        Trial.run(NEW, "sessions = ");
        for (int what = 0; what <= 10; what++) {
            Trial.run("about(" + what + ") = 0");
        }
    }

    static void promise1HasNoStenographer() {
        Trial.run("stenographer(0, 0) throws index", "transcript(0, 0, 0) throws index", "leave(0, 0) throws index",
            "emptyIn(0) throws index");
    }

    static void promise1HasNoSession() {
        Trial.run("sessionOf(0, 0) throws index", "cancel(0) throws index", "give(0, -1) throws index",
            "extend(0, 1) throws index", "whyNot(0, 0) throws index", "whom(0) throws index");
    }

    // "today is the day 0 at first", and the settings at first
    static void promise1Begins() {
        Trial.run("about(2) = 0", "setting(0) = 6", "setting(1) = 10", "setting(2) = 2", "setting(3) = 5");
    }

    static void promise1HasNoText() {
        Trial.run("clearText() = 0");
        Trial.run("errorPosition() = 0", "load() throws state");
    }

    static void promise1RemembersNothing() {
        Trial.run("undo() throws state");
    }

    static void promise1HasSavedNothing() {
        Trial.run("restore(0) throws state", "restore(1) throws state");
    }

    static void promise1CanBeUsedAtOnce() {
        Trial.run("giveAll() = 0");
        Trial.run("run(30) = 0", "about = 0 0 30 0 0 0 0 0 0 0 0");
        Trial.run("coming(60, 0) = 0", "coming(60, 1) = 0", "coming(60, 2) = 0", "coming(60, 3) = 0",
            "ifHired(20, 30) = 0", "freeRoom(0, 0, 16) = 0", "freeRoom(999, 15, 1) = 0", "runScript(1, 30000) = -1",
            "runScript(1, 0) = 0", "save(0) = 0");
    }

    static void promise1ObjectsAreApart() {
        StenoRooms x = new StenoRooms();
        StenoRooms y = new StenoRooms();
        x.hire(3);
        x.session(0, 0, 0, 1, 1);
        x.set(0, 1);
        x.append('J');
        x.save(0);
        Trial.same("stenographers of another object", y.about(0), 0);
        Trial.same("sessions of another object", y.about(1), 0);
        Trial.same("setting 0 of another object", y.setting(0), 6);
        Trial.same("length of another object's text", y.clearText(), 0);
        Trial.same("undo() of another object", Call.read("undo()").answer(y), "state");
        Trial.same("restore(0) of another object", Call.read("restore(0)").answer(y), "state");
        Trial.same("undo() of the object", Call.read("undo()").answer(x), "2");
    }

    // ---- promise 6: about

    /** Day 0: stenographer 0 leaves 14 of 54 pages, 1 types 6; day 1: one session is lost, 0 types 14. */
    private static Trial atWork() {
        return Trial.run("hire(4)", "hire(1)", "set(2, 0)").held(0, 0, 0, 0, 6, 9).held(1, 1, 0, 6, 3, 2)
            .calls("session(2, 1, 0, 2, 3)");
    }

    static void promise6EachNumber() {
        atWork().calls("about = 2 3 0 1 0 0 0 0 0 0 0", "run(1) = 5", "about = 2 1 1 1 1 14 0 18 5 1 46", "run(1) = 0",
            "about = 2 0 2 0 0 0 1 18 5 2 60", "run(30) = 0", "about = 2 0 32 0 0 0 1 18 5 2 60");
    }

    static void promise6ChangesNothing() {
        Trial t = atWork().calls("run(1)");
        int[] due = {2, 1, 1, 1, 1, 14, 0, 18, 5, 1, 46};
        for (int what = 0; what <= 10; what++) {
            t.calls("about(" + what + ") = " + due[what]);
        }
    }

    // "IllegalArgumentException if what is not 0 to 10"
    static void promise6RefusesOtherNumbers() {
        atWork().calls("about(-1) throws argument", "about(11) throws argument", "about(-2147483648) throws argument",
            "about(2147483647) throws argument", "about(256) throws argument");
    }

    // "3: the sessions without a stenographer"
    static void promise6SessionsWithoutAStenographer() {
        Trial.run("hire(4)", "about(3) = 0", "session(0, 0, 0, 1, 1)", "session(0, 1, 0, 1, 1)", "about(3) = 2",
            "give(0, 0)", "about(3) = 1", "give(1, 0)", "about(3) = 0", "give(0, -1)", "about(3) = 1", "cancel(0)",
            "about(3) = 0");
    }

    // "4: the transcripts on desks; 5: the pages of these that are to be typed"
    static void promise6TranscriptsOfAllDesks() {
        Trial.staff(1, 1).held(0, 0, 0, 0, 16, 1).held(1, 1, 0, 0, 16, 2).calls("about(4) = 0", "about(5) = 0", "run(1)",
            "about(4) = 2", "about(5) = 48", "run(1)", "about(4) = 1", "about(5) = 16", "run(1)", "about(4) = 0",
            "about(5) = 0");
    }

    static void promise6FullOfStenographersAndSessions() {
        Trial t = new Trial().times(6, "hire(1)");
        for (int i = 0; i < 16; i++) {
            t.calls("session(0, 0, " + i + ", 1, 1)");
        }
        t.calls("about(0) = 6", "about(1) = 16", "about(3) = 16", "run(1)", "about = 6 0 1 0 0 0 16 0 0 0 0");
    }

    // ---- promise 7: stenographer

    static void promise7EachNumber() {
        atWork().held(0, 3, 2, 0, 1, 1).held(0, 3, 0, 10, 2, 9).calls("stenographer(0) = 4 0 3 0 0 8 0",
            "stenographer(1) = 1 0 1 0 0 3 0", "run(1)", "leave(1, 3)", "stenographer(0) = 4 0 1 2 40 0 16",
            "stenographer(1) = 1 4 0 0 0 0 6");
    }

    static void promise7ChangesNothing() {
        Trial t = atWork().calls("run(1)");
        int[] due = {4, 0, 0, 1, 14, 0, 12};
        for (int what = 0; what <= 6; what++) {
            t.calls("stenographer(0, " + what + ") = " + due[what]);
        }
    }

    // "IndexOutOfBoundsException if there is no such stenographer"
    static void promise7RefusesOthers() {
        atWork().calls("stenographer(-1, 0) throws index", "stenographer(2, 0) throws index",
            "stenographer(-2147483648, 0) throws index", "stenographer(2147483647, 0) throws index",
            "stenographer(1, 0) = 1");
        new Trial().times(6, "hire(7)").calls("stenographer(5, 0) = 7", "stenographer(6, 0) throws index");
    }

    // "IllegalArgumentException if what is not 0 to 6"
    static void promise7RefusesOtherNumbers() {
        atWork().calls("stenographer(0, -1) throws argument", "stenographer(0, 7) throws argument",
            "stenographer(1, -2147483648) throws argument", "stenographer(1, 2147483647) throws argument");
    }

    static void promise7NamesTheStenographerFirst() {
        atWork().calls("stenographer(-1, -1) throws index", "stenographer(2, 7) throws index");
        Trial.run("stenographer(0, 7) throws index");
    }

    // "1: the day up to which there is leave", which stays when it has gone by
    static void promise7LeaveThatHasGoneBy() {
        Trial.run("hire(1)", "stenographer(0, 1) = 0", "leave(0, 2)", "run(5)", "stenographer(0, 1) = 2", "leave(0, 0)",
            "stenographer(0, 1) = 5");
    }

    // "5: the slots of sessions today"
    static void promise7SlotsOfTodayAlone() {
        Trial.staff(1, 1).held(0, 0, 0, 0, 16, 1).held(0, 1, 1, 0, 3, 1).held(0, 2, 1, 5, 4, 1).held(1, 3, 1, 0, 2, 1)
            .calls("stenographer(0, 5) = 16", "stenographer(1, 5) = 0", "run(1)", "stenographer(0, 5) = 7",
                "stenographer(1, 5) = 2", "run(1)", "stenographer(0, 5) = 0");
    }

    // ---- promise 8: sessionOf

    private static Trial twoSessions() {
        return Trial.run("hire(4)", "session(4, 999, 15, 1, 9)", "session(3, 7, 2, 5, 1)", "give(1, 0)");
    }

    static void promise8EachNumber() {
        twoSessions().calls("sessionOf(0, 0) = 3", "sessionOf(0, 1) = 7", "sessionOf(0, 2) = 2", "sessionOf(0, 3) = 5",
            "sessionOf(0, 4) = 1", "sessionOf(0, 5) = -1", "sessions = 3 7 2 5 1 -1, 4 999 15 1 9 0");
    }

    // "IndexOutOfBoundsException if there is no such session"
    static void promise8RefusesOthers() {
        twoSessions().calls("sessionOf(-1, 0) throws index", "sessionOf(2, 0) throws index",
            "sessionOf(-2147483648, 0) throws index", "sessionOf(2147483647, 0) throws index", "sessionOf(1, 0) = 4");
        Trial t = new Trial();
        for (int i = 0; i < 16; i++) {
            t.calls("session(0, " + i + ", 0, 1, 1)");
        }
        t.calls("sessionOf(15, 1) = 15", "sessionOf(16, 1) throws index");
    }

    // "IllegalArgumentException if what is not 0 to 5"
    static void promise8RefusesOtherNumbers() {
        twoSessions().calls("sessionOf(0, -1) throws argument", "sessionOf(0, 6) throws argument",
            "sessionOf(1, -2147483648) throws argument", "sessionOf(1, 2147483647) throws argument");
    }

    static void promise8NamesTheSessionFirst() {
        twoSessions().calls("sessionOf(-1, -1) throws index", "sessionOf(2, 6) throws index");
        Trial.run("sessionOf(0, 6) throws index");
    }

    // ---- promise 9: transcript

    private static Trial threeTranscripts() {
        return Trial.staff(1, 2).held(0, 0, 0, 0, 8, 9).held(1, 1, 0, 0, 8, 8).held(0, 2, 0, 8, 8, 7).calls("run(1)");
    }

    static void promise9EachNumber() {
        threeTranscripts().calls("transcript(0, 0, 0) = 72", "transcript(0, 0, 1) = 2", "transcript(0, 1, 0) = 56",
            "transcript(0, 1, 1) = 2", "transcript(1, 0, 0) = 48", "transcript(1, 0, 1) = 2", "set(2, 30)")
            .held(1, 0, 1, 0, 16, 9).calls("run(1)", "transcript(1, 1, 0) = 144", "transcript(1, 1, 1) = 31");
    }

    // "IndexOutOfBoundsException if there is no such stenographer or transcript"
    static void promise9RefusesOtherStenographers() {
        threeTranscripts().calls("transcript(-1, 0, 0) throws index", "transcript(2, 0, 0) throws index",
            "transcript(-2147483648, 0, 0) throws index", "transcript(2147483647, 0, 0) throws index");
    }

    static void promise9RefusesOtherTranscripts() {
        threeTranscripts().calls("transcript(0, -1, 0) throws index", "transcript(0, 2, 0) throws index",
            "transcript(1, 1, 0) throws index", "transcript(0, -2147483648, 0) throws index",
            "transcript(0, 2147483647, 0) throws index");
    }

    static void promise9RefusesWhatIsDone() {
        Trial.staff(1).held(0, 0, 0, 0, 15, 1).calls("transcript(0, 0, 0) throws index", "run(1)",
            "transcript(0, 0, 0) = 14", "run(1)", "transcript(0, 0, 0) throws index");
    }

    // "IllegalArgumentException if what is neither 0 nor 1"
    static void promise9RefusesOtherNumbers() {
        threeTranscripts().calls("transcript(0, 0, -1) throws argument", "transcript(0, 1, 2) throws argument",
            "transcript(1, 0, -2147483648) throws argument", "transcript(1, 0, 2147483647) throws argument");
    }

    static void promise9NamesTheTranscriptFirst() {
        threeTranscripts().calls("transcript(2, 0, 2) throws index", "transcript(-1, 0, -1) throws index",
            "transcript(1, 1, 2) throws index", "transcript(0, -1, -1) throws index");
    }

    // ---- promise 10: setting

    static void promise10EachSetting() {
        Trial.run("set(0, 1)", "set(1, 16)", "set(2, 30)", "set(3, 99)", "setting(0) = 1", "setting(1) = 16",
            "setting(2) = 30", "setting(3) = 99");
    }

    // "IllegalArgumentException if what is out of range"
    static void promise10RefusesOtherSettings() {
        Trial.run("setting(-1) throws argument", "setting(4) throws argument", "setting(-2147483648) throws argument",
            "setting(2147483647) throws argument");
    }
}
