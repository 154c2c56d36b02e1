/** Promises 21 to 26: what would be. That these calls change nothing is seen at each of them by Trial. */
public final class WouldBeTest {
    public static void main(String[] args) {
        Trial.runAll(WouldBeTest.class);
    }

    // ---- promise 21: whyNot

    // "1: there is leave on its day"
    static void promise21LeaveOnItsDay() {
        Trial.run("hire(1)", "session(0, 4, 0, 1, 1)", "session(0, 5, 0, 1, 1)", "session(0, 6, 0, 1, 1)", "whyNot(0, 0) = 0",
            "leave(0, 5)", "whyNot(0, 0) = 1", "whyNot(1, 0) = 0", "whyNot(2, 0) = 0", "leave(0, 6)", "whyNot(1, 0) = 1",
            "whyNot(2, 0) = 0", "run(4)", "whyNot(0, 0) = 1", "leave(0, 0)", "whyNot(0, 0) = 0");
    }

    // "2: the stenographer has another session in one of its slots"
    static void promise21AnotherSessionInOneOfItsSlots() {
        Trial t = Trial.run("hire(1)", "hire(1)").held(0, 0, 3, 6, 2, 1);
        int[] due = {0, 0, 0, 0, 0, 2, 2, 2, 0};
        for (int first = 0; first < 9; first++) {
            int k = first < 6 ? 0 : 1;
            t.calls("session(1, 3, " + first + ", 2, 1) = " + k, "whyNot(" + k + ", 0) = " + due[first],
                "whyNot(" + k + ", 1) = 0", "cancel(" + k + ")");
        }
        t.calls("session(1, 2, 6, 2, 1)", "session(1, 4, 6, 2, 1)", "whyNot(0, 0) = 0", "whyNot(2, 0) = 0",
            "session(2, 3, 0, 16, 1)", "set(0, 16)", "set(1, 16)", "whyNot(1, 0) = 2", "whyNot(1, 1) = 0");
    }

    // "3: the stenographer would have more than setting 0 slots in a row without a break that day"
    static void promise21SlotsInARowOfItsOwn() {
        Trial.run("hire(1)", "session(0, 0, 0, 6, 1)", "session(0, 1, 0, 7, 1)", "session(0, 2, 10, 6, 1)",
            "session(0, 3, 9, 7, 1)", "whyNot(0, 0) = 0", "whyNot(1, 0) = 3", "whyNot(2, 0) = 0", "whyNot(3, 0) = 3");
    }

    static void promise21SlotsInARowWithThoseAheadAndBehind() {
        Trial.run("hire(1)", "set(1, 16)").held(0, 0, 0, 2, 2, 1).held(0, 0, 0, 6, 2, 1).calls("session(1, 0, 4, 2, 1)",
            "whyNot(1, 0) = 0", "set(0, 5)", "whyNot(1, 0) = 3", "cancel(1)", "session(1, 0, 4, 1, 1)", "whyNot(1, 0) = 0",
            "set(0, 3)", "whyNot(1, 0) = 0", "set(0, 2)", "whyNot(1, 0) = 3");
    }

    static void promise21ABreakOfOneSlot() {
        Trial.run("hire(1)").held(0, 0, 0, 0, 5, 1).calls("session(1, 0, 5, 2, 1)", "session(1, 0, 7, 1, 1)",
            "whyNot(1, 0) = 3", "whyNot(2, 0) = 0", "cancel(1)", "session(1, 0, 6, 1, 1)", "whyNot(1, 0) = 0",
            "extend(1, 1)", "whyNot(1, 0) = 0");
    }

    static void promise21RowsAtBothEndsOfTheSetting() {
        Trial.run("hire(1)", "set(0, 1)", "set(1, 16)", "session(0, 0, 0, 1, 1)", "session(1, 0, 0, 2, 1)",
            "session(2, 0, 0, 16, 1)", "whyNot(0, 0) = 0", "whyNot(1, 0) = 3", "set(0, 15)", "whyNot(2, 0) = 3",
            "set(0, 16)", "whyNot(2, 0) = 0");
    }

    /** Slots 15 of a day and 0 of the next one are not in a row. */
    static void promise21RowsEndWithTheDay() {
        Trial.run("hire(1)").held(0, 0, 0, 10, 6, 1).calls("session(0, 1, 0, 6, 1)", "whyNot(1, 0) = 0");
    }

    /** A row of that day counts wherever the session stands. */
    static void promise21RowsOfTheWholeDay() {
        Trial.run("hire(1)").held(0, 0, 0, 0, 5, 1).calls("session(0, 0, 8, 1, 1)", "session(0, 1, 8, 1, 1)", "set(0, 4)",
            "whyNot(1, 0) = 3", "whyNot(2, 0) = 0", "set(0, 5)", "whyNot(1, 0) = 0");
    }

    // "4: the stenographer would have more than setting 1 slots that day"
    static void promise21SlotsThatDay() {
        Trial.run("hire(1)").held(0, 0, 3, 0, 5, 1).calls("session(0, 3, 6, 5, 1)", "session(1, 3, 6, 6, 1)",
            "session(0, 4, 0, 6, 1)", "whyNot(1, 0) = 0", "whyNot(2, 0) = 4", "whyNot(3, 0) = 0", "set(1, 11)",
            "whyNot(2, 0) = 0", "set(1, 9)", "whyNot(1, 0) = 4");
    }

    static void promise21SlotsAtBothEndsOfTheSetting() {
        Trial.run("hire(1)", "set(0, 16)", "set(1, 1)", "session(0, 0, 0, 1, 1)", "session(1, 0, 0, 2, 1)",
            "session(2, 0, 0, 16, 1)", "whyNot(0, 0) = 0", "whyNot(1, 0) = 4", "set(1, 15)", "whyNot(2, 0) = 4", "set(1, 16)",
            "whyNot(2, 0) = 0");
    }

    static void promise21SlotsOfOtherDaysDoNotCount() {
        Trial.staff(1).held(0, 0, 0, 0, 16, 1).held(0, 0, 2, 0, 16, 1).calls("session(0, 1, 0, 16, 1)", "whyNot(1, 0) = 0");
    }

    // "for the first of these reasons that applies"
    static void promise21TheFirstReason() {
        Trial.staff(5).held(0, 0, 2, 0, 5, 1).calls("session(1, 2, 4, 4, 1)", "set(0, 4)", "set(1, 5)", "whyNot(1, 0) = 2",
            "cancel(1)", "session(1, 2, 5, 4, 1)", "whyNot(1, 0) = 3", "set(0, 9)", "whyNot(1, 0) = 4", "set(1, 9)",
            "whyNot(1, 0) = 0");
        Trial.staff(5).calls("session(1, 2, 5, 4, 1)", "set(0, 3)", "set(1, 3)", "whyNot(0, 0) = 3", "leave(0, 3)",
            "whyNot(0, 0) = 1", "leave(0, 2)", "set(0, 4)", "whyNot(0, 0) = 4");
    }

    // "Returns 0 if it is possible (always, if the stenographer has it)"
    static void promise21TheOneWhoHasIt() {
        Trial.staff(5, 5).held(0, 0, 0, 0, 8, 1).calls("set(0, 1)", "whyNot(0, 0) = 0", "whyNot(0, 1) = 3", "set(0, 16)",
            "set(1, 7)", "whyNot(0, 0) = 0", "whyNot(0, 1) = 4", "give(0, -1)", "whyNot(0, 0) = 4");
    }

    // "IndexOutOfBoundsException if there is no such session or stenographer"
    static void promise21RefusesOtherSessions() {
        Trial.run("hire(1)", "whyNot(0, 0) throws index", "session(0, 0, 0, 1, 1)", "whyNot(-1, 0) throws index",
            "whyNot(1, 0) throws index", "whyNot(-2147483648, 0) throws index", "whyNot(2147483647, 0) throws index");
    }

    static void promise21RefusesOtherStenographers() {
        Trial.run("session(0, 0, 0, 1, 1)", "whyNot(0, 0) throws index", "hire(1)", "whyNot(0, -1) throws index",
            "whyNot(0, 1) throws index", "whyNot(0, -2147483648) throws index", "whyNot(0, 2147483647) throws index");
    }

    // ---- promise 22: whom

    // "NONE if nobody can be given it"
    static void promise22Nobody() {
        Trial.run("session(0, 0, 0, 1, 1)", "whom(0) = -1", "hire(1)", "whom(0) = 0", "leave(0, 1)", "whom(0) = -1");
        Trial.run("hire(1)", "hire(1)", "session(0, 0, 0, 7, 1)", "whom(0) = -1", "set(0, 7)", "whom(0) = 0");
    }

    // "Tells whom giveAll() would give a session"
    static void promise22FewestSlotsThenPagesThenTheLowest() {
        Trial.run("hire(1)", "hire(1)", "session(0, 0, 0, 2, 9)", "session(1, 0, 8, 2, 1)", "whom(0) = 0", "give(0, 0)",
            "whom(1) = 1", "give(1, 1)", "session(2, 0, 12, 1, 1)", "whom(2) = 0");
        Trial.run("hire(1)", "hire(1)").held(0, 0, 0, 0, 6, 9).calls("run(1)", "session(0, 1, 0, 1, 1)", "whom(0) = 1",
            "give(0, 0)", "whom(0) = 1").held(1, 1, 1, 4, 1, 1).calls("whom(0) = 0");
    }

    // "if it was the first one without a stenographer": those ahead of it do not take anybody
    static void promise22AsTheFirstOne() {
        Trial.run("hire(1)", "hire(1)", "session(0, 0, 0, 2, 1)", "session(1, 0, 1, 1, 1)", "session(2, 0, 1, 1, 1)",
            "whom(0) = 0", "whom(1) = 0", "whom(2) = 0", "giveAll() = 2", "whom(2) = -1");
    }

    // "(as if it had none now; so its slots do not count for the one who has it)"
    static void promise22AsIfItHadNone() {
        Trial.staff(5, 5).held(0, 0, 0, 0, 6, 1).calls("whom(0) = 0", "give(0, 1)", "whom(0) = 0").held(0, 1, 0, 8, 1, 1)
            .calls("whom(0) = 1").held(1, 2, 0, 10, 1, 1).calls("whom(0) = 0");
    }

    /** The one who has it can be refused for what the other sessions of that day and the settings say. */
    static void promise22TheOneWhoHasItCanBeRefused() {
        Trial.staff(5).held(0, 0, 0, 0, 6, 1).calls("set(0, 5)", "whyNot(0, 0) = 0", "whom(0) = -1", "set(0, 6)",
            "whom(0) = 0", "set(1, 5)", "whom(0) = -1", "set(1, 6)", "whom(0) = 0");
    }

    // "IndexOutOfBoundsException if there is no such session"
    static void promise22RefusesOthers() {
        Trial.run("hire(1)", "whom(0) throws index", "session(0, 0, 0, 1, 1)", "whom(-1) throws index",
            "whom(1) throws index", "whom(-2147483648) throws index", "whom(2147483647) throws index", "whom(0) = 0");
    }

    // ---- promise 23: coming

    /** Desk: 144 pages due on day 0; sessions on the days 0, 58 and 59 from now, one lost on day 0 and two on day 1. */
    private static Trial sixtyDays() {
        return Trial.staff(1).calls("set(2, 0)").held(0, 0, 0, 0, 16, 9).calls("session(1, 0, 0, 1, 1)", "run(1)")
            .held(0, 0, 1, 0, 9, 1).held(0, 0, 59, 0, 1, 1).held(0, 0, 60, 0, 2, 1).held(0, 0, 61, 0, 4, 1)
            .calls("session(2, 1, 0, 1, 1)", "session(1, 2, 0, 1, 1)", "session(2, 2, 0, 1, 1)", "session(1, 61, 0, 1, 1)");
    }

    // "0: the sessions lost in them"
    static void promise23SessionsLost() {
        sixtyDays().calls("coming(1, 0) = 1", "coming(2, 0) = 3", "coming(60, 0) = 3", "about(6) = 1");
    }

    // "1: the pay in them"
    static void promise23Pay() {
        sixtyDays().calls("coming(1, 1) = 19", "coming(58, 1) = 19", "coming(59, 1) = 21", "coming(60, 1) = 25",
            "about(7) = 40");
    }

    static void promise23PayOfAllStenographers() {
        Trial.staff(1, 1).held(0, 0, 0, 0, 9, 1).held(1, 1, 1, 0, 8, 1).calls("coming(1, 1) = 19", "coming(2, 1) = 35");
    }

    // "2: the fines in them"
    static void promise23Fines() {
        sixtyDays().calls("coming(1, 2) = 10", "coming(2, 2) = 20", "coming(9, 2) = 90", "coming(10, 2) = 95",
            "coming(60, 2) = 95", "about(8) = 5");
    }

    // "3: the transcripts on desks then"
    static void promise23TranscriptsThen() {
        sixtyDays().calls("about(4) = 1", "coming(1, 3) = 2", "coming(9, 3) = 2", "coming(10, 3) = 1", "coming(11, 3) = 0",
            "coming(60, 3) = 0");
    }

    // "n: 1 to 60: so many days, from today on"
    static void promise23OneAndSixtyDays() {
        Trial t = new Trial();
        for (int day = 0; day < 2; day++) {
            t.calls("session(0, " + day + ", 0, 1, 1)", "session(0, " + (day + 59) + ", 0, 1, 1)");
        }
        t.calls("coming(1, 0) = 1", "coming(2, 0) = 2", "coming(59, 0) = 2", "coming(60, 0) = 3", "run(30)",
            "coming(29, 0) = 0", "coming(30, 0) = 1", "coming(31, 0) = 2", "coming(60, 0) = 2");
    }

    // "IllegalArgumentException if n is out of range, or what is not 0 to 3"
    static void promise23RefusesOtherNumbersOfDays() {
        Trial.run("coming(0, 0) throws argument", "coming(61, 0) throws argument", "coming(-1, 3) throws argument",
            "coming(-2147483648, 0) throws argument", "coming(2147483647, 0) throws argument");
    }

    static void promise23RefusesOtherNumbers() {
        Trial.run("coming(1, -1) throws argument", "coming(1, 4) throws argument", "coming(60, -2147483648) throws argument",
            "coming(60, 2147483647) throws argument", "coming(0, 4) throws argument");
    }

    // "if nothing else is done": sessions without a stenographer are lost, though somebody could have them
    static void promise23GivesNothing() {
        Trial.run("hire(20)", "session(0, 0, 0, 1, 1)", "coming(1, 0) = 1", "coming(1, 1) = 0", "coming(1, 3) = 0");
    }

    // ---- promise 24: emptyIn

    static void promise24EmptyNow() {
        Trial.staff(1, 2).calls("emptyIn(0) = 0", "emptyIn(1) = 0").held(0, 0, 0, 0, 16, 9).calls("emptyIn(0) = 0", "run(1)",
            "emptyIn(0) = 9", "emptyIn(1) = 0");
    }

    // "how many days have to go by until no transcript is on the desk"
    static void promise24DaysOfTyping() {
        Trial.staff(1, 2).held(0, 0, 0, 0, 16, 9).held(1, 1, 0, 0, 16, 9).calls("run(1)", "emptyIn(0) = 9",
            "emptyIn(1) = 5", "run(8)", "desk(0) = 16:2", "emptyIn(0) = 1", "emptyIn(1) = 0", "run(1)", "emptyIn(0) = 0");
        Trial.staff(1).held(0, 0, 0, 0, 15, 1).calls("run(1)", "desk(0) = 14:2", "emptyIn(0) = 1");
    }

    static void promise24DaysOfLeave() {
        Trial.staff(1, 2).held(0, 0, 0, 0, 16, 9).held(1, 1, 0, 0, 16, 9).calls("run(1)", "leave(0, 30)", "emptyIn(0) = 39",
            "emptyIn(1) = 5");
    }

    static void promise24DaysWithSessions() {
        Trial t = Trial.staff(1).held(0, 0, 0, 0, 15, 1).held(0, 0, 1, 0, 15, 1).calls("run(1)", "desk(0) = 14:2",
            "emptyIn(0) = 3");
        for (int day = 2; day <= 14; day++) {
            t.held(0, 0, day, 0, 15, 1);
        }
        t.calls("emptyIn(0) = 28", "run(14)", "leave(0, 30)", "about(5) = 210", "emptyIn(0) = 44");
    }

    /** The first such day counts, also if more comes behind it. */
    static void promise24TheFirstDay() {
        Trial.staff(1).held(0, 0, 0, 0, 16, 1).held(0, 0, 2, 0, 16, 9).calls("run(1)", "emptyIn(0) = 1", "run(1)",
            "emptyIn(0) = 0", "run(1)", "emptyIn(0) = 9");
    }

    // "0 to 60 .. NONE if 60 are not enough"
    static void promise24SixtyDays() {
        // Each of the days 31 to 40 is not for typing, and brings as much as another one types.
        Trial t = Trial.staff(1).held(0, 0, 0, 0, 16, 9).calls("run(1)", "leave(0, 30)");
        for (int day = 31; day <= 40; day++) {
            t.held(0, 0, day, 0, 16, 1);
        }
        t.calls("emptyIn(0) = 59").held(0, 0, 41, 0, 1, 9).calls("emptyIn(0) = 60").held(0, 0, 42, 0, 1, 9)
            .calls("emptyIn(0) = -1", "run(1)", "emptyIn(0) = 60");
    }

    // "IndexOutOfBoundsException if there is no such stenographer"
    static void promise24RefusesOthers() {
        Trial.run("emptyIn(0) throws index", "hire(1)", "emptyIn(-1) throws index", "emptyIn(1) throws index",
            "emptyIn(-2147483648) throws index", "emptyIn(2147483647) throws index", "emptyIn(0) = 0");
    }

    // ---- promise 25: ifHired

    // "coming(n, 2) if giveAll() was done now, less the same if a stenographer with this speed was added"
    static void promise25Saves() {
        // Alone: 32 pages behind day 0, so that two are late on it, one on day 1, none on day 2.
        // With another one: each types 8 of 16 pages on day 0, so that two are late on it, none on day 1.
        Trial.staff(1).calls("set(2, 0)", "session(0, 0, 0, 8, 2)", "session(0, 0, 8, 8, 2)", "ifHired(1, 1) = 0",
            "ifHired(1, 2) = 5", "ifHired(1, 30) = 5", "ifHired(2, 1) = 5", "ifHired(20, 30) = 10");
    }

    /** It is the same if all have been given already, and nobody is needed. */
    static void promise25SavesNothing() {
        Trial.staff(1).calls("set(2, 0)", "session(0, 0, 0, 8, 2)", "session(0, 0, 8, 8, 2)", "giveAll()",
            "ifHired(20, 30) = 0");
    }

    /** Another one who is slow takes a session from one who is fast. */
    static void promise25Costs() {
        Trial.staff(20).calls("set(2, 0)", "set(3, 1)", "session(0, 0, 0, 4, 9)", "session(0, 0, 8, 4, 9)",
            "ifHired(2, 2) = -1", "ifHired(1, 1) = -1", "ifHired(1, 2) = -2", "ifHired(20, 30) = 0", "give(0, 0)", "set(0, 3)",
            "ifHired(1, 30) = 0");
    }

    /** Sessions that nobody has are lost at no fine; who takes them is fined. */
    static void promise25TheFirstStenographer() {
        Trial.run("set(2, 0)", "session(0, 0, 0, 6, 9)", "ifHired(1, 1) = -5", "ifHired(1, 2) = -10",
            "ifHired(1, 30) = -15", "ifHired(20, 30) = 0");
    }

    static void promise25DoesGiveAllInBothCases() {
        Trial.staff(1).calls("set(2, 0)", "session(0, 0, 0, 16, 9)", "ifHired(20, 1) = 0", "ifHired(20, 30) = 0",
            "coming(30, 2) = 0", "giveAll()", "coming(30, 2) = 45");
    }

    // "speed: 1 to 20", "n: 1 to 30"
    static void promise25RefusesOtherSpeeds() {
        Trial.run("ifHired(0, 1) throws argument", "ifHired(21, 1) throws argument", "ifHired(-2147483648, 1) throws argument",
            "ifHired(2147483647, 1) throws argument", "ifHired(1, 1) = 0", "ifHired(20, 1) = 0");
    }

    static void promise25RefusesOtherNumbersOfDays() {
        Trial.run("ifHired(1, 0) throws argument", "ifHired(1, 31) throws argument", "ifHired(1, -2147483648) throws argument",
            "ifHired(1, 2147483647) throws argument", "ifHired(1, 1) = 0", "ifHired(1, 30) = 0");
    }

    // "IllegalStateException if there are 6"
    static void promise25RefusesASeventh() {
        new Trial().times(5, "hire(1)").calls("ifHired(1, 1) = 0", "hire(1)", "ifHired(1, 1) throws state",
            "ifHired(20, 30) throws state");
    }

    static void promise25NamesTheArgumentsFirst() {
        new Trial().times(6, "hire(1)").calls("ifHired(0, 1) throws argument", "ifHired(21, 1) throws argument",
            "ifHired(1, 0) throws argument", "ifHired(1, 31) throws argument");
    }

    // ---- promise 26: freeRoom

    // "Returns the lowest room without a session in one of these slots"
    static void promise26TheLowestRoom() {
        Trial.run("session(0, 2, 4, 4, 1)", "session(1, 2, 0, 16, 1)", "session(2, 2, 15, 1, 1)", "session(3, 2, 0, 1, 1)",
            "freeRoom(2, 0, 4) = 0", "freeRoom(2, 8, 8) = 0", "freeRoom(2, 3, 2) = 2", "freeRoom(2, 7, 1) = 2",
            "freeRoom(2, 7, 2) = 2", "freeRoom(2, 5, 2) = 2", "freeRoom(2, 7, 9) = 3", "freeRoom(2, 0, 16) = 4",
            "freeRoom(2, 15, 1) = 0", "freeRoom(1, 0, 16) = 0", "freeRoom(3, 0, 16) = 0");
    }

    // "NONE if there is none"
    static void promise26NoRoom() {
        Trial t = new Trial();
        for (int room = 0; room < 5; room++) {
            t.calls("freeRoom(2, 7, 1) = " + room, "session(" + room + ", 2, 7, 1, 1)");
        }
        t.calls("freeRoom(2, 7, 1) = -1", "freeRoom(2, 0, 16) = -1", "freeRoom(2, 6, 2) = -1", "freeRoom(2, 7, 2) = -1",
            "freeRoom(2, 0, 7) = 0", "freeRoom(2, 8, 8) = 0", "cancel(3)", "freeRoom(2, 0, 16) = 3");
    }

    // "day: today to 999"
    static void promise26Days() {
        Trial.run("freeRoom(0, 0, 16) = 0", "freeRoom(-1, 0, 1) throws argument", "freeRoom(999, 0, 16) = 0",
            "freeRoom(1000, 0, 1) throws argument", "run(3)", "freeRoom(2, 0, 1) throws argument", "freeRoom(3, 0, 1) = 0",
            "freeRoom(-2147483648, 0, 1) throws argument", "freeRoom(2147483647, 0, 1) throws argument");
        new Trial().times(33, "run(30)").calls("run(9)", "freeRoom(999, 0, 16) = 0", "run(1)",
            "freeRoom(999, 0, 1) throws argument", "freeRoom(1000, 0, 1) throws argument");
    }

    // "first: 0 to 15"
    static void promise26FirstSlots() {
        Trial.run("freeRoom(0, 0, 1) = 0", "freeRoom(0, 15, 1) = 0", "freeRoom(0, -1, 1) throws argument",
            "freeRoom(0, 16, 1) throws argument", "freeRoom(0, 16, 0) throws argument", "freeRoom(0, 17, -1) throws argument",
            "freeRoom(0, -2147483648, 1) throws argument", "freeRoom(0, 2147483647, 1) throws argument");
    }

    // "slots: 1 to 16 less first"
    static void promise26Slots() {
        for (int first = 0; first < 16; first++) {
            String at = "freeRoom(5, " + first + ", ";
            Trial.run(at + "0) throws argument", at + "1) = 0", at + (16 - first) + ") = 0",
                at + (17 - first) + ") throws argument");
        }
        Trial.run("freeRoom(0, 1, 2147483647) throws argument", "freeRoom(0, 0, -2147483648) throws argument",
            "freeRoom(0, 0, -1) throws argument");
    }

    /** It tells a room also if there are 16 sessions. */
    static void promise26WithSixteenSessions() {
        Trial t = new Trial();
        for (int i = 0; i < 16; i++) {
            t.calls("session(0, 0, " + i + ", 1, 1)");
        }
        t.calls("freeRoom(0, 0, 16) = 1", "freeRoom(1, 0, 16) = 0");
    }
}
