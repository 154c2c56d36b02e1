/** Promise 18: what happens when days go by. */
public final class DaysTest {
    public static void main(String[] args) {
        Trial.runAll(DaysTest.class);
    }

    // "n: 1 to 30"
    static void promise18OneAndThirtyDays() {
        Trial.run("session(0, 29, 0, 1, 1)", "session(0, 30, 0, 1, 1)", "run(1) = 0", "about(2) = 1", "run(28) = 0",
            "about(6) = 0");
        Trial.run("session(0, 29, 0, 1, 1)", "session(0, 30, 0, 1, 1)", "run(30) = 0", "about = 0 1 30 1 0 0 1 0 0 0 0");
    }

    // "IllegalArgumentException if n is out of range"
    static void promise18RefusesOtherNumbers() {
        Trial.run("run(0) throws argument", "run(31) throws argument", "run(-1) throws argument",
            "run(-2147483648) throws argument", "run(2147483647) throws argument");
    }

    // "Then the next day begins."
    static void promise18BeyondTheLastDayOfSessions() {
        new Trial().times(34, "run(30)").calls("about(2) = 1020", "run(1) = 0", "about(2) = 1021");
    }

    // "1. The sessions of today, in their order, are gone."
    static void promise18SessionsOfTodayAreGone() {
        Trial.run("session(0, 0, 15, 1, 1)", "session(0, 1, 0, 1, 1)", "session(0, 2, 0, 1, 1)", "run(1)",
            "sessions = 0 1 0 1 1 -1, 0 2 0 1 1 -1", "run(1)", "sessions = 0 2 0 1 1 -1", "run(1)", "sessions = ");
    }

    // "One without a stenographer is lost."
    static void promise18OneWithoutAStenographerIsLost() {
        Trial.run("hire(1)").held(0, 0, 0, 0, 1, 9).calls("session(1, 0, 0, 1, 9)", "session(2, 0, 0, 16, 9)",
            "run(1) = 0", "about(6) = 2", "about(7) = 2", "run(1)", "about(6) = 2");
    }

    static void promise18AllSixteenAreLost() {
        Trial t = new Trial();
        for (int i = 0; i < 16; i++) {
            t.calls("session(0, 0, " + i + ", 1, 1)");
        }
        t.calls("run(1) = 0", "about = 0 0 1 0 0 0 16 0 0 0 0");
    }

    // "the stenographer gets a transcript on the desk, as the last one"
    static void promise18TranscriptsInTheOrderOfTheSessions() {
        Trial.staff(1, 1).held(0, 2, 0, 0, 4, 2).held(1, 1, 0, 0, 9, 9).held(0, 3, 0, 4, 4, 3).held(0, 0, 0, 8, 8, 4)
            .calls("run(1)", "desk(0) = 8:2 12:2 32:2", "desk(1) = 74:2").held(0, 0, 1, 0, 16, 1).calls("set(2, 0)",
                "run(1)", "desk(0) = 8:2 12:2 32:2 16:1", "desk(1) = 58:2");
    }

    // "with as many pages as its slots times its talk"
    static void promise18PagesOfATranscript() {
        Trial.staff(1).held(0, 0, 0, 0, 16, 9).calls("run(1)", "desk(0) = 144:2");
        Trial.staff(1).held(0, 0, 0, 0, 15, 1).held(0, 1, 0, 15, 1, 1).calls("run(1)", "desk(0) = 15:2 1:2");
        Trial.staff(1, 1).held(0, 0, 0, 0, 7, 8).held(0, 0, 0, 7, 9, 2).calls("run(1)", "desk(0) = 56:2 18:2");
    }

    // "due on the day today and setting 2"
    static void promise18DayOfATranscript() {
        Trial.staff(1).calls("set(2, 0)").held(0, 0, 0, 0, 16, 9).held(0, 0, 1, 0, 16, 9).calls("run(1)", "set(2, 30)",
            "run(1)", "desk(0) = 144:0 144:31", "set(2, 5)", "desk(0) = 144:0 144:31");
    }

    // "2 as pay for each of the first 8 slots of this day, and 3 for each further one"
    static void promise18PayOfOneSession() {
        int[] due = {2, 4, 6, 8, 10, 12, 14, 16, 19, 22, 25, 28, 31, 34, 37, 40};
        for (int slots = 1; slots <= 16; slots++) {
            Trial.staff(20).held(0, 0, 0, 0, slots, 1).calls("run(1)", "stenographer(0, 6) = " + due[slots - 1],
                "about(7) = " + due[slots - 1]);
        }
    }

    static void promise18PayOfADaysSessions() {
        Trial.staff(20, 20).held(0, 0, 0, 0, 4, 1).held(0, 1, 0, 5, 5, 1).held(1, 2, 0, 0, 8, 1).held(1, 2, 0, 8, 8, 1)
            .calls("run(1)", "stenographer(0, 6) = 19", "stenographer(1, 6) = 40", "about(7) = 59");
    }

    static void promise18PayOfEachDay() {
        Trial.staff(20).held(0, 0, 0, 0, 8, 1).held(0, 0, 1, 0, 9, 1).calls("run(1)", "stenographer(0, 6) = 16", "run(1)",
            "stenographer(0, 6) = 35", "run(1)", "stenographer(0, 6) = 35", "about(7) = 35");
    }

    // "2. Each stenographer .. types in each slot of this day without a session as many pages as the speed tells"
    static void promise18TypesInSlotsWithoutASession() {
        for (int slots = 1; slots <= 16; slots++) {
            int left = Math.max(0, slots * 9 - (16 - slots));
            Trial.staff(1).held(0, 0, 0, 0, slots, 9).calls("run(1)", "about(5) = " + left,
                "about(10) = " + (slots * 9 - left), "about(9) = " + (left == 0 ? 1 : 0));
        }
    }

    static void promise18TypesAsManyPagesAsTheSpeedTells() {
        Trial.staff(20, 9).held(0, 0, 0, 0, 14, 9).held(1, 1, 0, 0, 8, 9).calls("run(1)", "desk(0) = 86:2", "desk(1) = ",
            "about(9) = 1", "about(10) = 112");
        Trial.staff(20, 8).held(0, 0, 0, 0, 14, 3).held(1, 1, 0, 0, 8, 9).calls("run(1)", "desk(0) = 2:2",
            "desk(1) = 8:2", "about(9) = 0", "about(10) = 104");
    }

    /** Only their own slots count, and only those of today. */
    static void promise18TypesInSlotsWithoutASessionOfTheirOwn() {
        Trial.staff(1, 1).held(0, 0, 0, 0, 16, 2).held(1, 0, 1, 0, 16, 1).calls("session(1, 1, 0, 16, 1)")
            .held(0, 0, 2, 0, 16, 1).calls("run(1)", "desk(0) = 32:2", "run(1)", "desk(0) = 16:2", "desk(1) = 16:3",
                "run(1)", "desk(0) = 16:2 16:4", "desk(1) = ");
    }

    // "of the transcript that is due earliest"
    static void promise18WhatIsDueEarliestFirst() {
        Trial.staff(1).calls("set(2, 5)").held(0, 0, 0, 0, 16, 9).calls("run(1)", "set(2, 3)").held(0, 0, 1, 0, 14, 1)
            .calls("run(1)", "desk(0) = 144:5 12:4", "run(1)", "desk(0) = 140:5", "about(9) = 1", "about(10) = 18");
    }

    // "of several the one that stands first on the desk"
    static void promise18OfSeveralTheFirstOne() {
        Trial.staff(1).calls("set(2, 3)").held(0, 0, 0, 0, 16, 9).calls("run(1)", "set(2, 2)").held(0, 0, 1, 0, 15, 9)
            .calls("run(1)", "desk(0) = 143:3 135:3", "set(2, 1)").held(0, 0, 2, 0, 15, 9).calls("run(1)",
                "desk(0) = 142:3 135:3 135:3");
    }

    // "until it is done, then of the next one"
    static void promise18ThenTheNextOneInTheSameSlot() {
        Trial.staff(20, 3).held(0, 0, 0, 0, 1, 9).held(0, 0, 0, 1, 14, 1).held(1, 1, 0, 0, 14, 1).held(1, 1, 0, 15, 1, 6)
            .calls("run(1)", "desk(0) = 3:2", "desk(1) = 11:2 6:2", "about(10) = 23", "run(1)", "desk(0) = ", "desk(1) = ",
                "about(9) = 4", "about(10) = 43");
    }

    /** A transcript is done with its last page, not a page later. */
    static void promise18DoneWithTheLastPage() {
        Trial.staff(1).held(0, 0, 0, 0, 2, 7).calls("run(1)", "desk(0) = ", "about(9) = 1", "about(10) = 14");
        Trial.staff(1).held(0, 0, 0, 0, 3, 5).calls("run(1)", "desk(0) = 2:2", "about(9) = 0", "about(10) = 13");
    }

    // "A transcript that is done goes."
    static void promise18WhatStandsBehindItMovesUp() {
        Trial.staff(1, 1).held(0, 0, 0, 0, 4, 4).held(1, 1, 0, 0, 16, 9).held(0, 2, 0, 4, 12, 1).calls("run(1)",
            "desk(0) = 16:2 12:2", "desk(1) = 144:2", "run(1)", "desk(0) = 12:2", "desk(1) = 128:2", "about(4) = 2",
            "about(9) = 1", "transcript(0, 1, 0) throws index");
    }

    /** The one that goes can stand between others. */
    static void promise18OneInTheMiddleGoes() {
        Trial.staff(1).calls("set(2, 9)").held(0, 0, 0, 0, 16, 9).calls("run(1)", "set(2, 0)").held(0, 0, 1, 0, 16, 1)
            .calls("run(1)", "set(2, 8)").held(0, 0, 2, 0, 15, 1).calls("run(1)", "desk(0) = 144:9 15:1 15:10", "run(1)",
                "desk(0) = 143:9 15:10");
    }

    static void promise18NothingToType() {
        Trial.staff(20).calls("run(30) = 0", "about = 1 0 30 0 0 0 0 0 0 0 0");
    }

    // "Each stenographer who has no leave today"
    static void promise18NobodyTypesOnLeave() {
        Trial.staff(20).held(0, 0, 0, 0, 16, 9).calls("run(1)", "leave(0, 3)", "run(2)", "desk(0) = 144:2", "run(1)",
            "desk(0) = 144:2", "about(10) = 0", "run(1)", "desk(0) = ", "about(10) = 144");
        Trial.staff(20).held(0, 0, 0, 0, 16, 9).calls("run(1)", "leave(0, 0)", "run(1)", "desk(0) = ");
    }

    static void promise18OthersTypeThen() {
        Trial.staff(20, 20).held(0, 0, 0, 0, 16, 9).held(1, 1, 0, 0, 16, 9).calls("run(1)", "leave(0, 1)", "run(1)",
            "desk(0) = 144:2", "desk(1) = ", "run(1)", "desk(0) = ");
    }

    // "3. For each transcript on a desk whose day is today, or earlier, setting 3 is paid as a fine."
    static void promise18FinesFromTheDayOn() {
        Trial.staff(1).held(0, 0, 0, 0, 16, 9).calls("run(1) = 0", "run(1) = 0", "run(1) = 5", "run(1) = 5", "about(8) = 10",
            "run(4) = 20", "desk(0) = 32:2", "run(2) = 5", "desk(0) = ", "about(8) = 35", "run(30) = 0");
    }

    static void promise18FinesOnItsOwnDay() {
        Trial.staff(1).calls("set(2, 0)").held(0, 0, 0, 0, 16, 9).calls("run(1) = 5", "run(8) = 40", "desk(0) = 16:0",
            "run(1) = 0", "desk(0) = ", "about(8) = 45");
    }

    static void promise18FinesOfSeveralTranscripts() {
        Trial.staff(1, 1).calls("set(2, 1)", "set(3, 99)").held(0, 0, 0, 0, 16, 9).held(1, 1, 0, 0, 8, 9)
            .held(1, 1, 0, 8, 8, 9).held(0, 0, 1, 0, 16, 9).calls("run(1) = 0", "run(1) = 297", "run(1) = 396",
                "about(8) = 693");
    }

    static void promise18FinesOfNothing() {
        Trial.staff(1).calls("set(2, 0)", "set(3, 0)").held(0, 0, 0, 0, 16, 9).calls("run(5) = 0", "about(8) = 0",
            "set(3, 1)", "run(1) = 1");
    }

    /** What is typed on the day on which it is due costs nothing. */
    static void promise18TypedBeforeTheFine() {
        Trial.staff(1).calls("set(2, 0)").held(0, 0, 0, 0, 8, 1).calls("run(1) = 0", "desk(0) = ");
        Trial.staff(1).calls("set(2, 1)").held(0, 0, 0, 0, 16, 1).calls("run(1) = 0", "run(1) = 0", "desk(0) = ");
    }

    // "Returns the fines in them."
    static void promise18ReturnsTheFinesOfTheseDaysAlone() {
        Trial.staff(1).calls("set(2, 0)").held(0, 0, 0, 0, 16, 9).calls("run(3) = 15", "run(3) = 15", "run(30) = 15",
            "run(30) = 0", "about(8) = 45");
    }

    /** The document names no limit on the transcripts: as many as the calls of one object can bring. */
    static void promise18ManyTranscripts() {
        Trial t = Trial.staff(1);
        for (int day = 0; day < 26; day++) {
            for (int slot = 0; slot < 16; slot++) {
                t.calls("session(0, " + day + ", " + slot + ", 1, " + (1 + slot % 9) + ")");
            }
            // On the day 25, those of the days up to 23 are due.
            t.calls("giveAll() = 16", "run(1) = " + 5 * 16 * Math.max(0, day - 1));
        }
        t.calls("stenographer(0, 3) = 416", "about(4) = 416", "about(5) = 1898", "about(8) = 24000",
            "transcript(0, 415, 0) = 7", "transcript(0, 415, 1) = 27", "transcript(0, 416, 0) throws index", "save(0)",
            "run(1)", "about(9) = 5", "stenographer(0, 3) = 411", "run(30)", "undo()", "stenographer(0, 3) = 411",
            "restore(0)", "stenographer(0, 3) = 416", "transcript(0, 415, 0) = 7", "emptyIn(0) = -1");
    }
}
