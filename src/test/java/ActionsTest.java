/** Promises 11 to 17: stenographers, sessions, who has them, and leave. */
public final class ActionsTest {
    public static void main(String[] args) {
        Trial.runAll(ActionsTest.class);
    }

    // ---- promise 11: hire

    // "speed: 1 to 20"
    static void promise11SpeedsOf1And20() {
        Trial.run("hire(1) = 0", "hire(20) = 1", "stenographer(0, 0) = 1", "stenographer(1, 0) = 20");
    }

    static void promise11RefusesOtherSpeeds() {
        Trial.run("hire(0) throws argument", "hire(21) throws argument", "hire(-1) throws argument",
            "hire(-2147483648) throws argument", "hire(2147483647) throws argument", "hire(257) throws argument",
            "hire(1) = 0");
    }

    // "There are at most 6 stenographers, numbered from 0."
    static void promise11SixAtMost() {
        Trial.run("hire(1) = 0", "hire(2) = 1", "hire(3) = 2", "hire(4) = 3", "hire(5) = 4", "hire(6) = 5",
            "hire(7) throws state", "stenographer(5, 0) = 6", "about(0) = 6");
    }

    static void promise11NamesTheSpeedAheadOfTheSixth() {
        new Trial().times(6, "hire(7)").calls("hire(0) throws argument", "hire(21) throws argument");
    }

    // "a day up to which there is leave, at first 0", and a desk
    static void promise11BeginsWithNothing() {
        Trial.run("run(9)", "hire(3) = 0", "stenographer(0) = 3 0 0 0 0 0 0");
    }

    /** Nothing is left of one whom restore() took back. */
    static void promise11BeginsWithNothingBehindRestore() {
        Trial.run("session(0, 0, 0, 6, 9)", "save(0)", "hire(1)", "giveAll()", "run(1)", "leave(0, 9)",
            "stenographer(0) = 1 10 0 1 44 0 12", "restore(0)", "hire(3) = 0", "stenographer(0) = 3 0 0 0 0 0 0");
    }

    // ---- promise 12: session

    // "room: 0 to 4"
    static void promise12Rooms0And4() {
        Trial.run("session(0, 0, 0, 1, 1) = 0", "session(4, 0, 0, 1, 1) = 1", "sessions = 0 0 0 1 1 -1, 4 0 0 1 1 -1");
    }

    // "IndexOutOfBoundsException if there is no such room"
    static void promise12RefusesOtherRooms() {
        Trial.run("session(-1, 0, 0, 1, 1) throws index", "session(5, 0, 0, 1, 1) throws index",
            "session(-2147483648, 0, 0, 1, 1) throws index", "session(2147483647, 0, 0, 1, 1) throws index");
    }

    // "day: today to 999"
    static void promise12DaysFromToday() {
        Trial.run("session(0, 0, 0, 1, 1) = 0", "session(0, -1, 0, 1, 1) throws argument", "run(3)",
            "session(0, 2, 0, 1, 1) throws argument", "session(0, 0, 0, 1, 1) throws argument",
            "session(0, 3, 0, 1, 1) = 0");
    }

    static void promise12DaysUpTo999() {
        Trial.run("session(0, 999, 0, 1, 1) = 0", "session(0, 998, 0, 1, 1) = 0", "session(0, 1000, 0, 1, 1) throws argument",
            "session(1, 2147483647, 0, 1, 1) throws argument", "session(1, -2147483648, 0, 1, 1) throws argument");
    }

    static void promise12TheLastDayIsToday() {
        new Trial().times(33, "run(30)").calls("run(9)", "about(2) = 999", "session(0, 998, 0, 1, 1) throws argument",
            "session(0, 999, 15, 1, 1) = 0", "session(0, 1000, 0, 1, 1) throws argument", "run(1)", "about(6) = 1",
            "session(0, 999, 0, 1, 1) throws argument", "session(0, 1000, 0, 1, 1) throws argument",
            "session(5, 1000, 0, 1, 1) throws index");
    }

    // "first: 0 to 15"
    static void promise12FirstSlots0And15() {
        Trial.run("session(0, 0, 0, 1, 1) = 0", "session(0, 0, 15, 1, 1) = 1");
    }

    static void promise12RefusesOtherFirstSlots() {
        Trial.run("session(0, 0, -1, 1, 1) throws argument", "session(0, 0, 16, 1, 1) throws argument",
            "session(0, 0, 16, 0, 1) throws argument", "session(0, 0, 17, -1, 1) throws argument",
            "session(0, 0, -2147483648, 1, 1) throws argument", "session(0, 0, 2147483647, 1, 1) throws argument",
            "session(0, 0, -1, 16, 1) throws argument");
    }

    // "slots: 1 to 16 less first"
    static void promise12SlotsUpToTheEndOfTheDay() {
        for (int first = 0; first < 16; first++) {
            String at = "session(2, 5, " + first + ", ";
            Trial.run(at + "0, 1) throws argument", at + (17 - first) + ", 1) throws argument", at + "1, 1) = 0");
            Trial.run(at + (16 - first) + ", 1) = 0", "sessions = 2 5 " + first + " " + (16 - first) + " 1 -1");
        }
    }

    static void promise12RefusesSlotsThatWrapAround() {
        Trial.run("session(0, 0, 1, 2147483647, 1) throws argument", "session(0, 0, 15, 2147483646, 1) throws argument",
            "session(0, 0, 0, -2147483648, 1) throws argument", "session(0, 0, 15, -2147483648, 1) throws argument",
            "session(0, 0, 0, -1, 1) throws argument");
    }

    // "talk: 1 to 9"
    static void promise12TalkOf1And9() {
        Trial.run("session(0, 0, 0, 1, 1) = 0", "session(1, 0, 0, 1, 9) = 1", "sessions = 0 0 0 1 1 -1, 1 0 0 1 9 -1");
    }

    static void promise12RefusesOtherTalk() {
        Trial.run("session(0, 0, 0, 1, 0) throws argument", "session(0, 0, 0, 1, 10) throws argument",
            "session(0, 0, 0, 1, -2147483648) throws argument", "session(0, 0, 0, 1, 2147483647) throws argument");
    }

    // "There are at most 16 sessions.", "IllegalStateException if there are 16"
    static void promise12SixteenAtMost() {
        Trial t = new Trial();
        for (int i = 0; i < 16; i++) {
            t.calls("session(0, 0, " + i + ", 1, 1) = " + i);
        }
        t.calls("session(1, 0, 0, 1, 1) throws state", "session(0, 0, 0, 1, 1) throws state",
            "session(4, 999, 15, 1, 9) throws state", "about(1) = 16");
    }

    static void promise12InPlaceOfACancelledOne() {
        Trial t = new Trial();
        for (int i = 0; i < 16; i++) {
            t.calls("session(0, 0, " + i + ", 1, 1)");
        }
        t.calls("cancel(7) = 15", "session(0, 0, 7, 1, 2) = 7", "session(1, 0, 0, 1, 1) throws state", "run(1)",
            "session(1, 1, 0, 1, 1) = 0");
    }

    // "or the room has a session in one of these slots"
    static void promise12RefusesTakenSlots() {
        Trial.run("session(1, 3, 4, 4, 1)", "session(1, 3, 4, 4, 1) throws state", "session(1, 3, 2, 3, 1) throws state",
            "session(1, 3, 7, 1, 1) throws state", "session(1, 3, 4, 1, 1) throws state",
            "session(1, 3, 5, 2, 1) throws state", "session(1, 3, 0, 16, 1) throws state",
            "session(1, 3, 7, 9, 1) throws state");
    }

    static void promise12SlotsRightAheadAndBehindAreFree() {
        Trial.run("session(1, 3, 4, 4, 1)", "session(1, 3, 2, 2, 1) = 0", "session(1, 3, 8, 8, 1) = 2",
            "session(1, 3, 0, 2, 1) = 0", "session(1, 3, 0, 1, 1) throws state", "session(1, 3, 15, 1, 1) throws state");
    }

    static void promise12OtherRoomsAndDaysAreFree() {
        Trial.run("session(1, 3, 0, 16, 1)", "session(0, 3, 0, 16, 1) = 0", "session(2, 3, 0, 16, 1) = 2",
            "session(1, 2, 0, 16, 1) = 0", "session(1, 4, 0, 16, 1) = 4");
    }

    // "If several exceptions apply to a call, the one that its description names first is thrown."
    static void promise12NamesTheRoomFirst() {
        Trial t = Trial.run("session(5, -1, 16, 0, 0) throws index", "session(-1, 0, 0, 1, 0) throws index");
        for (int i = 0; i < 16; i++) {
            t.calls("session(0, 0, " + i + ", 1, 1)");
        }
        t.calls("session(5, 0, 0, 1, 1) throws index", "session(-1, 1000, 0, 1, 1) throws index");
    }

    static void promise12NamesTheArgumentsAheadOfTheState() {
        Trial t = Trial.run("session(0, 0, 0, 16, 1)", "session(0, 0, 0, 1, 0) throws argument",
            "session(0, 0, 0, 17, 1) throws argument", "session(0, 0, 16, 1, 1) throws argument", "cancel(0)");
        for (int i = 0; i < 16; i++) {
            t.calls("session(0, 0, " + i + ", 1, 1)");
        }
        t.calls("session(1, 0, 0, 1, 10) throws argument", "session(1, -1, 0, 1, 1) throws argument",
            "session(1, 0, 8, 9, 1) throws argument");
    }

    // "Sessions are in the order of their days, then of their first slots, then of their rooms"
    static void promise12InTheOrderOfDays() {
        Trial.run("session(0, 5, 0, 1, 1) = 0", "session(4, 4, 15, 1, 1) = 0", "session(0, 6, 0, 1, 1) = 2",
            "session(4, 0, 15, 1, 1) = 0", "session(4, 999, 15, 1, 1) = 4", "session(0, 998, 0, 16, 1) = 4");
    }

    static void promise12ThenOfFirstSlots() {
        Trial.run("session(0, 5, 7, 1, 1) = 0", "session(4, 5, 6, 1, 1) = 0", "session(0, 5, 8, 1, 1) = 2",
            "session(4, 5, 0, 6, 1) = 0", "session(0, 5, 15, 1, 1) = 4", "session(4, 5, 14, 1, 1) = 4");
    }

    static void promise12ThenOfRooms() {
        Trial.run("session(2, 5, 3, 2, 1) = 0", "session(1, 5, 3, 13, 1) = 0", "session(3, 5, 3, 1, 1) = 2",
            "session(0, 5, 3, 9, 1) = 0", "session(4, 5, 3, 1, 1) = 4",
            "sessions = 0 5 3 9 1 -1, 1 5 3 13 1 -1, 2 5 3 2 1 -1, 3 5 3 1 1 -1, 4 5 3 1 1 -1");
    }

    /** Those behind it keep their stenographers when their numbers change. */
    static void promise12NumbersChange() {
        Trial.run("hire(1)", "hire(1)", "session(0, 5, 3, 1, 1)", "session(0, 5, 5, 1, 2)", "give(0, 1)", "give(1, 0)",
            "session(0, 5, 0, 1, 3) = 0", "sessions = 0 5 0 1 3 -1, 0 5 3 1 1 1, 0 5 5 1 2 0");
    }

    // "Adds a session without a stenographer."
    static void promise12WithoutAStenographer() {
        Trial.run("hire(1)", "session(0, 0, 0, 1, 1)", "give(0, 0)", "cancel(0)", "session(0, 0, 0, 1, 1) = 0",
            "sessionOf(0, 5) = -1", "about(3) = 1");
    }

    // ---- promise 13: cancel

    private static Trial threeSessions() {
        return Trial.run("hire(5)", "session(0, 0, 0, 1, 1)", "session(1, 0, 0, 1, 2)", "session(2, 0, 0, 1, 3)",
            "give(1, 0)");
    }

    // "IndexOutOfBoundsException if there is no such session"
    static void promise13RefusesOthers() {
        threeSessions().calls("cancel(-1) throws index", "cancel(3) throws index", "cancel(-2147483648) throws index",
            "cancel(2147483647) throws index");
        Trial.run("cancel(0) throws index");
    }

    // "Returns the sessions then."
    static void promise13TheFirstAndTheLast() {
        threeSessions().calls("cancel(0) = 2", "sessions = 1 0 0 1 2 0, 2 0 0 1 3 -1");
        threeSessions().calls("cancel(2) = 2", "sessions = 0 0 0 1 1 -1, 1 0 0 1 2 0");
    }

    static void promise13All() {
        threeSessions().calls("cancel(1) = 2", "sessions = 0 0 0 1 1 -1, 2 0 0 1 3 -1", "stenographer(0, 5) = 0",
            "cancel(1) = 1", "cancel(0) = 0", "cancel(0) throws index", "run(1) = 0", "about = 1 0 1 0 0 0 0 0 0 0 0");
    }

    static void promise13OneOfSixteen() {
        Trial t = new Trial();
        for (int i = 0; i < 16; i++) {
            t.calls("session(0, 0, " + i + ", 1, 1)");
        }
        t.calls("cancel(16) throws index", "cancel(15) = 15", "cancel(15) throws index", "cancel(0) = 14",
            "sessionOf(0, 2) = 1", "sessionOf(13, 2) = 14");
    }

    static void promise13ItsSlotsAreFreeThen() {
        Trial.run("hire(5)", "session(0, 0, 0, 6, 1)", "give(0, 0)", "session(1, 0, 5, 2, 1)", "whyNot(1, 0) = 2",
            "cancel(0) = 1", "whyNot(0, 0) = 0", "session(0, 0, 0, 16, 1) = 0");
    }

    // ---- promise 14: give

    // "Returns the previous one."
    static void promise14ReturnsThePreviousOne() {
        Trial.run("hire(5)", "hire(6)", "session(0, 0, 0, 6, 1)", "give(0, -1) = -1", "give(0, 0) = -1", "give(0, 1) = 0",
            "give(0, 0) = 1", "give(0, -1) = 0", "give(0, -1) = -1", "sessionOf(0, 5) = -1");
    }

    // "IndexOutOfBoundsException if there is no such session"
    static void promise14RefusesOtherSessions() {
        threeSessions().calls("give(-1, 0) throws index", "give(3, 0) throws index", "give(3, -1) throws index",
            "give(-2147483648, 0) throws index", "give(2147483647, 0) throws index", "give(2, 0) throws state");
        Trial.run("hire(1)", "give(0, 0) throws index", "give(0, -1) throws index");
    }

    // "or p is neither a stenographer nor NONE"
    static void promise14RefusesOtherStenographers() {
        threeSessions().calls("give(0, 1) throws index", "give(0, -2) throws index", "give(0, 6) throws index",
            "give(0, -2147483648) throws index", "give(0, 2147483647) throws index");
        Trial.run("session(0, 0, 0, 1, 1)", "give(0, 0) throws index", "give(0, -1) = -1");
    }

    static void promise14NamesWhatDoesNotExistFirst() {
        Trial.run("hire(1)", "leave(0, 5)", "session(0, 0, 0, 1, 1)", "give(0, 0) throws state", "give(1, 0) throws index",
            "give(-1, 0) throws index", "give(0, 1) throws index");
    }

    // "IllegalStateException if the stenographer cannot be given it", "1: there is leave on its day"
    static void promise14OnLeave() {
        Trial.run("hire(1)", "session(0, 4, 0, 1, 1)", "session(0, 5, 0, 1, 1)", "leave(0, 5)", "give(0, 0) throws state",
            "give(1, 0) = -1");
    }

    // "2: the stenographer has another session in one of its slots"
    static void promise14AnotherSession() {
        Trial.run("hire(1)", "session(0, 0, 2, 3, 1)", "give(0, 0)", "session(1, 0, 4, 1, 1)", "session(2, 0, 1, 2, 1)",
            "session(1, 0, 5, 1, 1)", "session(2, 0, 0, 1, 1)", "give(1, 0) throws state", "give(3, 0) throws state",
            "sessions = 2 0 0 1 1 -1, 2 0 1 2 1 -1, 0 0 2 3 1 0, 1 0 4 1 1 -1, 1 0 5 1 1 -1", "give(4, 0) = -1",
            "give(0, 0) = -1");
    }

    // "3: the stenographer would have more than setting 0 slots in a row without a break that day"
    static void promise14SlotsInARow() {
        Trial.run("hire(1)", "session(0, 0, 0, 4, 1)", "give(0, 0)", "session(1, 0, 4, 3, 1)", "give(1, 0) throws state",
            "cancel(1)", "session(1, 0, 4, 2, 1)", "give(1, 0) = -1");
    }

    // "4: the stenographer would have more than setting 1 slots that day"
    static void promise14SlotsADay() {
        Trial.run("hire(1)", "session(0, 0, 0, 6, 1)", "give(0, 0)", "session(1, 0, 7, 5, 1)", "give(1, 0) throws state",
            "cancel(1)", "session(1, 0, 7, 4, 1)", "give(1, 0) = -1");
    }

    static void promise14TheOneWhoHasIt() {
        Trial.run("hire(1)", "hire(1)", "session(0, 0, 0, 6, 1)", "give(0, 1)", "set(0, 1)", "set(1, 1)", "give(0, 1) = 1",
            "give(0, 0) throws state", "give(0, -1) = 1", "give(0, 1) throws state");
    }

    /** NONE is possible whatever the reasons against a stenographer would be. */
    static void promise14ToNobody() {
        Trial.run("hire(1)", "session(0, 0, 0, 6, 1)", "leave(0, 9)", "set(0, 1)", "set(1, 1)", "give(0, -1) = -1");
    }

    // ---- promise 15: giveAll

    static void promise15OfNothing() {
        Trial.run("giveAll() = 0");
        Trial.run("hire(1)", "giveAll() = 0");
        Trial.run("session(0, 0, 0, 1, 1)", "giveAll() = 0", "sessions = 0 0 0 1 1 -1");
    }

    static void promise15WhenNobodyCan() {
        Trial.run("hire(1)", "hire(1)", "leave(0, 1)", "session(0, 0, 0, 7, 1)", "giveAll() = 0",
            "sessions = 0 0 0 7 1 -1");
    }

    // "the fewest slots of sessions that day"
    static void promise15FewestSlots() {
        Trial.run("hire(1)", "hire(1)", "session(0, 0, 0, 3, 1)", "session(0, 0, 4, 2, 1)", "session(0, 0, 8, 1, 1)",
            "session(0, 0, 10, 1, 1)", "session(0, 1, 0, 1, 1)", "giveAll() = 5",
            "sessions = 0 0 0 3 1 0, 0 0 4 2 1 1, 0 0 8 1 1 1, 0 0 10 1 1 0, 0 1 0 1 1 0", "giveAll() = 0");
    }

    /** Not fewest sessions, and not those of other days. */
    static void promise15SlotsOfThatDayAlone() {
        Trial.run("hire(1)", "hire(1)", "session(0, 0, 0, 6, 1)", "give(0, 0)", "session(0, 1, 0, 1, 1)",
            "session(0, 1, 2, 1, 1)", "session(0, 1, 4, 3, 1)", "give(1, 0)", "give(2, 0)", "give(3, 1)",
            "session(0, 1, 8, 1, 1)", "giveAll() = 1", "sessionOf(4, 5) = 0");
    }

    // "of several the one with the fewest pages on the desk"
    static void promise15FewestPages() {
        Trial t = Trial.run("hire(1)", "hire(1)", "hire(1)").held(0, 0, 0, 0, 6, 5).held(1, 1, 0, 0, 6, 4)
            .held(2, 2, 0, 0, 6, 4);
        t.calls("run(1)", "desk(0) = 20:2", "desk(1) = 14:2", "desk(2) = 14:2", "session(0, 1, 0, 2, 1)",
            "session(0, 1, 2, 2, 1)", "session(0, 1, 4, 2, 1)", "giveAll() = 3",
            "sessions = 0 1 0 2 1 1, 0 1 2 2 1 2, 0 1 4 2 1 0");
    }

    /** Pages count, not transcripts. */
    static void promise15ManyTranscriptsOfFewPages() {
        Trial.staff(1, 1).held(0, 0, 0, 0, 8, 1).held(0, 0, 0, 8, 8, 2).held(1, 1, 0, 0, 16, 2).calls("run(1)",
            "desk(0) = 8:2 16:2", "desk(1) = 32:2", "session(0, 1, 0, 1, 1)", "giveAll() = 1", "sessionOf(0, 5) = 0");
    }

    // "of several the lowest"
    static void promise15TheLowest() {
        Trial.run("hire(1)", "hire(20)", "hire(20)", "session(0, 0, 0, 1, 1)", "session(1, 0, 0, 1, 1)",
            "session(2, 0, 0, 1, 1)", "session(3, 0, 0, 1, 1)", "giveAll() = 3",
            "sessions = 0 0 0 1 1 0, 1 0 0 1 1 1, 2 0 0 1 1 2, 3 0 0 1 1 -1");
    }

    // "one after the other in their order, to the one who can be given it"
    static void promise15OneAfterTheOther() {
        Trial.run("hire(1)", "hire(1)", "leave(0, 1)", "session(0, 0, 0, 6, 1)", "session(1, 0, 5, 2, 1)",
            "session(2, 0, 6, 1, 1)", "session(3, 0, 8, 5, 1)", "session(4, 0, 9, 4, 1)", "giveAll() = 2",
            "sessions = 0 0 0 6 1 1, 1 0 5 2 1 -1, 2 0 6 1 1 -1, 3 0 8 5 1 -1, 4 0 9 4 1 1", "leave(0, 0)",
            "giveAll() = 2", "sessions = 0 0 0 6 1 1, 1 0 5 2 1 0, 2 0 6 1 1 -1, 3 0 8 5 1 0, 4 0 9 4 1 1");
    }

    // "each session without a stenographer": the others stay with theirs
    static void promise15OthersKeepTheirs() {
        Trial.run("hire(1)", "hire(1)", "session(0, 0, 0, 2, 1)", "session(0, 0, 3, 2, 1)", "give(0, 1)", "give(1, 1)",
            "session(0, 0, 6, 1, 1)", "giveAll() = 1", "sessions = 0 0 0 2 1 1, 0 0 3 2 1 1, 0 0 6 1 1 0");
    }

    static void promise15AllSixteen() {
        Trial t = Trial.run("hire(1)", "hire(1)", "set(0, 1)", "set(1, 16)");
        for (int i = 0; i < 16; i++) {
            t.calls("session(0, 0, " + i + ", 1, 1)");
        }
        t.calls("giveAll() = 16", "stenographer(0, 2) = 8", "stenographer(1, 2) = 8", "sessionOf(0, 5) = 0",
            "sessionOf(1, 5) = 1", "sessionOf(14, 5) = 0", "sessionOf(15, 5) = 1", "giveAll() = 0");
    }

    // ---- promise 16: extend

    // "n: 1 to 16"
    static void promise16ByOneAndBySixteen() {
        Trial.run("session(0, 0, 3, 2, 1)", "extend(0, 1) = 3", "sessions = 0 0 3 3 1 -1", "extend(0, 16) = 13");
        Trial.run("session(0, 0, 0, 1, 1)", "extend(0, 16) = 16", "sessions = 0 0 0 16 1 -1");
    }

    // "IllegalArgumentException if n is out of range"
    static void promise16RefusesOtherNumbers() {
        Trial.run("session(0, 0, 0, 1, 1)", "extend(0, 0) throws argument", "extend(0, 17) throws argument",
            "extend(0, -1) throws argument", "extend(0, -2147483648) throws argument",
            "extend(0, 2147483647) throws argument", "extend(0, 2147483640) throws argument");
    }

    // "IndexOutOfBoundsException if there is no such session"
    static void promise16RefusesOtherSessions() {
        Trial.run("extend(0, 1) throws index", "session(0, 0, 0, 1, 1)", "extend(-1, 1) throws index",
            "extend(1, 1) throws index", "extend(-2147483648, 1) throws index", "extend(2147483647, 1) throws index");
    }

    static void promise16NamesTheSessionFirst() {
        Trial.run("extend(0, 0) throws index", "session(0, 0, 0, 1, 1)", "extend(1, 0) throws index",
            "extend(-1, 17) throws index");
    }

    // "more slots, as far as the day goes"
    static void promise16AsFarAsTheDayGoes() {
        Trial.run("session(0, 0, 3, 2, 1)", "extend(0, 10) = 12", "extend(0, 1) = 13", "extend(0, 1) = 13",
            "extend(0, 16) = 13", "sessions = 0 0 3 13 1 -1");
        Trial.run("session(0, 0, 15, 1, 1)", "extend(0, 1) = 1", "extend(0, 16) = 1");
        Trial.run("session(0, 0, 14, 1, 1)", "extend(0, 16) = 2");
        Trial.run("session(0, 0, 0, 15, 1)", "extend(0, 2) = 16");
    }

    /** It keeps its stenographer, whatever the settings say. */
    static void promise16KeepsItsStenographer() {
        Trial.run("hire(1)", "session(0, 0, 3, 6, 1)", "give(0, 0)", "extend(0, 1) = 7", "extend(0, 16) = 13",
            "sessions = 0 0 3 13 1 0");
    }

    // "one that begins ahead of the end of the one before it .. begins at this end"
    static void promise16TheNextOneBeginsAtTheEnd() {
        Trial.staff(1).held(0, 0, 0, 0, 2, 1).held(0, 0, 0, 4, 2, 2).calls("extend(0, 2) = 4",
            "sessions = 0 0 0 4 1 0, 0 0 4 2 2 0", "extend(0, 1) = 5", "sessions = 0 0 0 5 1 0, 0 0 5 2 2 -1");
    }

    /** The first one is driven by the longer one, the others by the one before them. */
    static void promise16OneDrivesTheNext() {
        Trial.staff(5, 5, 5).held(0, 0, 0, 0, 2, 1).held(0, 0, 0, 3, 2, 2).held(1, 0, 0, 6, 3, 3).held(2, 0, 0, 10, 4, 4)
            .held(1, 1, 0, 2, 1, 5).held(2, 0, 1, 0, 9, 6).calls("extend(0, 4) = 6",
                "sessions = 0 0 0 6 1 0, 1 0 2 1 5 1, 0 0 6 2 2 -1, 0 0 8 3 3 -1, 0 0 11 4 4 -1, 0 1 0 9 6 2");
    }

    static void promise16AGapEndsIt() {
        Trial.staff(5, 5).held(0, 0, 0, 0, 2, 1).held(0, 0, 0, 3, 2, 2).held(0, 0, 0, 6, 2, 3).held(1, 0, 0, 9, 3, 4)
            .calls("extend(0, 1) = 3", "sessions = 0 0 0 3 1 0, 0 0 3 2 2 0, 0 0 6 2 3 0, 0 0 9 3 4 1",
                "extend(0, 1) = 4", "sessions = 0 0 0 4 1 0, 0 0 4 2 2 -1, 0 0 6 2 3 0, 0 0 9 3 4 1",
                "extend(1, 2) = 4", "sessions = 0 0 0 4 1 0, 0 0 4 4 2 -1, 0 0 8 2 3 -1, 0 0 10 3 4 -1");
    }

    // "with as many slots as it has, as far as the day goes"
    static void promise16DrivenToTheEndOfTheDay() {
        Trial.run("session(0, 0, 0, 2, 1)", "session(0, 0, 2, 5, 2)", "extend(0, 9) = 11",
            "sessions = 0 0 0 11 1 -1, 0 0 11 5 2 -1");
        Trial.run("session(0, 0, 0, 2, 1)", "session(0, 0, 2, 5, 2)", "extend(0, 10) = 12",
            "sessions = 0 0 0 12 1 -1, 0 0 12 4 2 -1");
        Trial.run("session(0, 0, 0, 2, 1)", "session(0, 0, 2, 5, 2)", "extend(0, 13) = 15",
            "sessions = 0 0 0 15 1 -1, 0 0 15 1 2 -1");
    }

    // "if that is no slot, it is gone"
    static void promise16DrivenOutOfTheDay() {
        Trial.run("session(0, 0, 0, 2, 1)", "session(0, 0, 2, 5, 2)", "extend(0, 14) = 16", "sessions = 0 0 0 16 1 -1",
            "about(6) = 0");
        Trial.run("session(0, 0, 14, 1, 1)", "session(0, 0, 15, 1, 2)", "extend(0, 16) = 2", "sessions = 0 0 14 2 1 -1");
    }

    static void promise16SeveralAreGone() {
        Trial.run("session(2, 4, 1, 2, 1)", "session(2, 4, 8, 5, 2)", "session(2, 4, 13, 2, 3)", "session(2, 4, 15, 1, 4)",
            "session(3, 4, 15, 1, 5)", "session(2, 5, 0, 1, 6)", "extend(0, 9) = 11",
            "sessions = 2 4 1 11 1 -1, 2 4 12 4 2 -1, 3 4 15 1 5 -1, 2 5 0 1 6 -1", "extend(0, 16) = 15",
            "sessions = 2 4 1 15 1 -1, 3 4 15 1 5 -1, 2 5 0 1 6 -1", "run(5)", "about(6) = 2");
    }

    static void promise16FifteenAreGone() {
        Trial t = Trial.staff(1);
        for (int i = 0; i < 16; i++) {
            t.held(0, 0, 0, i, 1, 1);
        }
        t.calls("extend(0, 16) = 16", "sessions = 0 0 0 16 1 0", "session(1, 0, 0, 1, 1) = 1");
    }

    // "the later sessions of its room on that day"
    static void promise16EarlierOnesStay() {
        Trial.run("session(0, 0, 0, 4, 1)", "session(0, 0, 4, 2, 2)", "session(0, 0, 6, 2, 3)", "extend(1, 16) = 12",
            "sessions = 0 0 0 4 1 -1, 0 0 4 12 2 -1");
    }

    static void promise16OtherRoomsAndDaysStay() {
        Trial.staff(5, 5).held(0, 2, 1, 0, 2, 1).held(1, 1, 1, 3, 2, 2).held(1, 2, 2, 3, 2, 3).held(1, 2, 0, 3, 2, 4)
            .calls("extend(1, 16) = 16", "sessions = 2 0 3 2 4 1, 2 1 0 16 1 0, 1 1 3 2 2 1, 2 2 3 2 3 1");
    }

    /** A session that is driven can come behind others, of other rooms, in the order. */
    static void promise16TheOrderChanges() {
        Trial.run("session(3, 0, 0, 2, 1)", "session(3, 0, 2, 2, 2)", "session(0, 0, 3, 1, 3)", "session(1, 0, 5, 1, 4)",
            "session(4, 0, 5, 1, 5)", "session(0, 0, 6, 1, 6)", "extend(0, 3) = 5",
            "sessions = 3 0 0 5 1 -1, 0 0 3 1 3 -1, 1 0 5 1 4 -1, 3 0 5 2 2 -1, 4 0 5 1 5 -1, 0 0 6 1 6 -1");
    }

    // "Then all other sessions of the stenographer of this one that have a slot in common with it lose the stenographer."
    static void promise16FreesOneWithASlotInCommon() {
        Trial.staff(5).held(0, 0, 0, 0, 2, 1).held(0, 1, 0, 3, 2, 2).held(0, 2, 0, 5, 1, 3).calls("extend(0, 1) = 3",
            "sessions = 0 0 0 3 1 0, 1 0 3 2 2 0, 2 0 5 1 3 0", "extend(0, 1) = 4",
            "sessions = 0 0 0 4 1 0, 1 0 3 2 2 -1, 2 0 5 1 3 0");
    }

    static void promise16FreesAllWithASlotInCommon() {
        Trial.staff(5).held(0, 0, 0, 0, 1, 1).held(0, 1, 0, 1, 2, 2).held(0, 2, 0, 3, 13, 3).calls("extend(0, 16) = 16",
            "sessions = 0 0 0 16 1 0, 1 0 1 2 2 -1, 2 0 3 13 3 -1");
    }

    static void promise16FreesOneThatWasAddedEarlier() {
        Trial.staff(5).held(0, 1, 0, 4, 3, 1).held(0, 0, 0, 2, 1, 2).calls("extend(0, 3) = 4",
            "sessions = 0 0 2 4 2 0, 1 0 4 3 1 -1");
    }

    static void promise16OthersKeepTheirs() {
        Trial.staff(5, 5).held(0, 0, 0, 0, 2, 1).held(1, 2, 0, 3, 2, 3).held(0, 1, 1, 3, 1, 5)
            .calls("session(4, 0, 3, 2, 6)", "extend(0, 9) = 11",
                "sessions = 0 0 0 11 1 0, 2 0 3 2 3 1, 4 0 3 2 6 -1, 1 1 3 1 5 0");
    }

    static void promise16WithoutAStenographer() {
        Trial.staff(5, 5).calls("session(0, 0, 0, 2, 1)").held(1, 1, 0, 1, 3, 2).calls("extend(0, 9) = 11",
            "sessions = 0 0 0 11 1 -1, 1 0 1 3 2 1");
    }

    // ---- promise 17: leave

    // "days: 0 to 30: up to the day today and days"
    static void promise17ZeroAndThirtyDays() {
        Trial.run("hire(1)", "run(4)", "leave(0, 0) = 0", "stenographer(0, 1) = 4", "leave(0, 30) = 0",
            "stenographer(0, 1) = 34", "leave(0, 1) = 0", "stenographer(0, 1) = 5");
    }

    // "IllegalArgumentException if days is out of range"
    static void promise17RefusesOtherDays() {
        Trial.run("hire(1)", "leave(0, -1) throws argument", "leave(0, 31) throws argument",
            "leave(0, -2147483648) throws argument", "leave(0, 2147483647) throws argument", "run(9)",
            "leave(0, -1) throws argument", "leave(0, 2147483647) throws argument");
    }

    // "IndexOutOfBoundsException if there is no such stenographer"
    static void promise17RefusesOthers() {
        Trial.run("leave(0, 1) throws index", "hire(1)", "leave(-1, 1) throws index", "leave(1, 1) throws index",
            "leave(-2147483648, 1) throws index", "leave(2147483647, 1) throws index");
        new Trial().times(6, "hire(1)").calls("leave(6, 1) throws index", "leave(5, 1) = 0");
    }

    static void promise17NamesTheStenographerFirst() {
        Trial.run("leave(0, 31) throws index", "hire(1)", "leave(1, 31) throws index", "leave(-1, -1) throws index");
    }

    // "there is leave on the days ahead of that day": "sessions on the days of it lose this stenographer"
    static void promise17UpToTheDayAhead() {
        Trial t = Trial.staff(5, 5).calls("run(2)");
        for (int day = 2; day <= 5; day++) {
            t.held(0, 0, day, 0, 1, 1).held(1, 1, day, 0, 1, 1);
        }
        t.calls("leave(0, 2) = 2", "sessions = 0 2 0 1 1 -1, 1 2 0 1 1 1, 0 3 0 1 1 -1, 1 3 0 1 1 1, "
            + "0 4 0 1 1 0, 1 4 0 1 1 1, 0 5 0 1 1 0, 1 5 0 1 1 1", "stenographer(1, 1) = 0");
    }

    static void promise17NoDays() {
        Trial.run("hire(1)").held(0, 0, 0, 0, 1, 1).calls("leave(0, 0) = 0", "sessionOf(0, 5) = 0", "leave(0, 1) = 1",
            "sessionOf(0, 5) = -1");
    }

    static void promise17ThirtyDays() {
        Trial.run("hire(1)").held(0, 0, 29, 15, 1, 1).held(0, 0, 30, 0, 1, 1).calls("leave(0, 30) = 1",
            "sessions = 0 29 15 1 1 -1, 0 30 0 1 1 0");
    }

    // "Gives leave, in place of what there was"
    static void promise17InPlaceOfWhatThereWas() {
        Trial.run("hire(1)", "session(0, 3, 0, 1, 1)", "session(0, 5, 0, 1, 1)", "leave(0, 5) = 0", "whyNot(0, 0) = 1",
            "whyNot(1, 0) = 0", "leave(0, 3) = 0", "whyNot(0, 0) = 0", "leave(0, 6) = 0", "whyNot(1, 0) = 1",
            "leave(0, 0) = 0", "whyNot(0, 0) = 0", "whyNot(1, 0) = 0");
    }

    /** Those that have lost the stenographer stay without one. */
    static void promise17LostForGood() {
        Trial.run("hire(1)").held(0, 0, 3, 0, 1, 1).calls("leave(0, 4) = 1", "leave(0, 4) = 0", "leave(0, 0) = 0",
            "sessionOf(0, 5) = -1");
    }

    // "Returns how many sessions lose the stenographer."
    static void promise17SixteenSessions() {
        Trial t = Trial.staff(1, 1);
        for (int i = 0; i < 16; i++) {
            t.held(i == 9 ? 1 : 0, 0, 0, i, 1, 1);
        }
        t.calls("leave(0, 1) = 15", "about(3) = 15", "leave(1, 1) = 1", "about(3) = 16");
    }
}
