/** Promises 21 to 26: what would be. */
public final class WouldBeTest {
    private static final int NONE = StenoRooms.NONE;

    public static void main(String[] args) {
        promise21Reasons();
        promise21FirstReason();
        promise21TheOneWhoHasIt();
        promise21RowsOfTheWholeDay();
        promise21Refusals();
        promise22Whom();
        promise22AsIfItHadNone();
        promise22Refusals();
        promise23Coming();
        promise23Refusals();
        promise24EmptyIn();
        promise24FirstEmptyDay();
        promise24SixtyDays();
        promise24Refusals();
        promise25Saves();
        promise25Costs();
        promise25Refusals();
        promise26FreeRoom();
        promise26Refusals();
        Check.end("WouldBeTest");
    }

    private static void whyNot(StenoRooms x, int k, int p, int due) {
        Check.tells("whyNot(" + k + ", " + p + ")", x, due, () -> x.whyNot(k, p));
    }

    private static void promise21Reasons() {
        StenoRooms x = new StenoRooms();
        x.hire(5);
        Check.held(x, 0, 0, 3, 0, 5, 1);
        x.session(1, 3, 4, 1, 1);
        x.session(1, 3, 5, 1, 1);
        x.session(1, 3, 6, 5, 1);
        x.session(1, 3, 11, 5, 1);
        x.session(1, 4, 9, 7, 1);
        x.session(1, 5, 10, 6, 1);
        whyNot(x, 1, 0, 2);
        whyNot(x, 2, 0, 0);
        whyNot(x, 3, 0, 0);
        whyNot(x, 4, 0, 0);
        whyNot(x, 5, 0, 3);
        whyNot(x, 6, 0, 0);
        x.give(2, 0);
        whyNot(x, 3, 0, 3);
        whyNot(x, 4, 0, 4);
        x.set(1, 11);
        whyNot(x, 4, 0, 0);
        x.leave(0, 5);
        whyNot(x, 5, 0, 1);
        whyNot(x, 6, 0, 0);
        x.leave(0, 6);
        whyNot(x, 6, 0, 1);
    }

    /** All four reasons apply to one session; each goes when what causes it goes. */
    private static void promise21FirstReason() {
        StenoRooms x = Check.staff(5);
        Check.held(x, 0, 0, 2, 0, 8, 1);
        x.session(1, 2, 7, 4, 1);
        x.set(0, 4);
        x.set(1, 8);
        whyNot(x, 1, 0, 2);
        x.extend(0, 1);
        x.give(0, NONE);
        x.leave(0, 3);
        whyNot(x, 1, 0, 1);
        x.undo();
        whyNot(x, 1, 0, 0);
        x.cancel(0);
        x.session(2, 2, 12, 4, 1);
        x.give(1, 0);
        x.session(3, 2, 11, 1, 1);
        x.set(1, 4);
        whyNot(x, 1, 0, 3);
        x.set(0, 5);
        whyNot(x, 1, 0, 4);
        x.set(1, 5);
        whyNot(x, 1, 0, 0);
    }

    private static void promise21TheOneWhoHasIt() {
        StenoRooms x = Check.staff(5, 5);
        Check.held(x, 0, 0, 0, 0, 8, 1);
        x.set(0, 1);
        whyNot(x, 0, 0, 0);
        whyNot(x, 0, 1, 3);
        x.set(0, 16);
        x.set(1, 7);
        whyNot(x, 0, 0, 0);
        whyNot(x, 0, 1, 4);
    }

    private static void promise21RowsOfTheWholeDay() {
        StenoRooms x = Check.staff(5);
        Check.held(x, 0, 0, 0, 0, 5, 1);
        x.session(0, 0, 8, 1, 1);
        x.session(0, 1, 8, 1, 1);
        x.set(0, 4);
        whyNot(x, 1, 0, 3);
        whyNot(x, 2, 0, 0);
        x.set(0, 5);
        whyNot(x, 1, 0, 0);
    }

    private static void promise21Refusals() {
        StenoRooms x = new StenoRooms();
        Check.index("whyNot(0, 0) of none", x, () -> x.whyNot(0, 0));
        x.hire(1);
        Check.index("whyNot(0, 0) without a session", x, () -> x.whyNot(0, 0));
        x.session(0, 0, 0, 1, 1);
        Check.index("whyNot(-1, 0)", x, () -> x.whyNot(-1, 0));
        Check.index("whyNot(1, 0)", x, () -> x.whyNot(1, 0));
        Check.index("whyNot(0, NONE)", x, () -> x.whyNot(0, NONE));
        Check.index("whyNot(0, 1)", x, () -> x.whyNot(0, 1));
    }

    private static void whom(StenoRooms x, int k, int due) {
        Check.tells("whom(" + k + ")", x, due, () -> x.whom(k));
    }

    private static void promise22Whom() {
        StenoRooms x = new StenoRooms();
        x.session(0, 0, 0, 2, 9);
        x.session(1, 0, 1, 1, 1);
        x.session(2, 0, 8, 2, 1);
        x.session(3, 0, 9, 7, 1);
        whom(x, 0, NONE);
        x.hire(1);
        x.hire(1);
        whom(x, 0, 0);
        x.give(0, 0);
        whom(x, 1, 1);
        whom(x, 2, 1);
        x.give(2, 1);
        whom(x, 1, 1);
        whom(x, 3, NONE);
        x.leave(1, 1);
        whom(x, 1, NONE);
        whom(x, 0, 0);
    }

    /** The slots of the session itself do not count, nor does it matter that somebody has it. */
    private static void promise22AsIfItHadNone() {
        StenoRooms x = Check.staff(5, 5);
        Check.held(x, 0, 0, 0, 0, 6, 1);
        whom(x, 0, 0);
        x.give(0, 1);
        whom(x, 0, 0);
        Check.held(x, 0, 1, 0, 8, 1, 1);
        whom(x, 0, 1);
        Check.held(x, 1, 2, 0, 10, 1, 1);
        whom(x, 0, 0);
        x.set(0, 5);
        whom(x, 0, NONE);
        x.set(0, 6);
        x.set(1, 6);
        whom(x, 0, NONE);
        x.set(1, 7);
        whom(x, 0, 0);
        StenoRooms y = new StenoRooms();
        y.hire(1);
        y.hire(1);
        Check.held(y, 0, 0, 0, 0, 6, 9);
        y.run(1);
        y.session(0, 1, 0, 1, 1);
        whom(y, 0, 1);
        y.give(0, 0);
        whom(y, 0, 1);
    }

    private static void promise22Refusals() {
        StenoRooms x = new StenoRooms();
        Check.index("whom(0) of none", x, () -> x.whom(0));
        x.session(0, 0, 0, 1, 1);
        Check.index("whom(-1)", x, () -> x.whom(-1));
        Check.index("whom(1)", x, () -> x.whom(1));
    }

    private static void coming(StenoRooms x, int n, int what, int due) {
        Check.tells("coming(" + n + ", " + what + ")", x, due, () -> x.coming(n, what));
    }

    private static void promise23Coming() {
        StenoRooms x = Check.staff(1);
        x.set(2, 0);
        Check.held(x, 0, 0, 0, 0, 16, 9);
        x.session(1, 0, 0, 1, 1);
        x.run(1);
        Check.held(x, 0, 0, 1, 0, 9, 1);
        Check.held(x, 0, 0, 59, 0, 1, 1);
        Check.held(x, 0, 0, 60, 0, 2, 1);
        Check.held(x, 0, 0, 61, 0, 4, 1);
        x.session(1, 2, 0, 1, 1);
        x.session(2, 2, 0, 1, 1);
        coming(x, 1, 0, 0);
        coming(x, 2, 0, 2);
        coming(x, 60, 0, 2);
        coming(x, 1, 1, 19);
        coming(x, 58, 1, 19);
        coming(x, 59, 1, 21);
        coming(x, 60, 1, 25);
        coming(x, 1, 2, 10);
        coming(x, 2, 2, 20);
        coming(x, 9, 2, 90);
        coming(x, 10, 2, 95);
        coming(x, 60, 2, 95);
        coming(x, 1, 3, 2);
        coming(x, 9, 3, 2);
        coming(x, 10, 3, 1);
        coming(x, 11, 3, 0);
    }

    private static void promise23Refusals() {
        StenoRooms x = new StenoRooms();
        Check.argument("coming(0, 0)", x, () -> x.coming(0, 0));
        Check.argument("coming(61, 0)", x, () -> x.coming(61, 0));
        Check.argument("coming(1, -1)", x, () -> x.coming(1, -1));
        Check.argument("coming(1, 4)", x, () -> x.coming(1, 4));
        coming(x, 60, 3, 0);
    }

    private static void emptyIn(StenoRooms x, int p, int due) {
        Check.tells("emptyIn(" + p + ")", x, due, () -> x.emptyIn(p));
    }

    private static void promise24EmptyIn() {
        StenoRooms x = Check.staff(1, 2);
        emptyIn(x, 0, 0);
        Check.held(x, 0, 0, 0, 0, 16, 9);
        Check.held(x, 1, 1, 0, 0, 16, 9);
        emptyIn(x, 0, 0);
        x.run(1);
        emptyIn(x, 0, 9);
        emptyIn(x, 1, 5);
        x.leave(0, 30);
        emptyIn(x, 0, 39);
        emptyIn(x, 1, 5);
    }

    private static void promise24FirstEmptyDay() {
        StenoRooms x = Check.staff(1);
        Check.held(x, 0, 0, 0, 0, 15, 1);
        Check.held(x, 0, 0, 1, 0, 15, 1);
        x.run(1);
        Check.same("desk", Check.desk(x, 0), "14:2");
        emptyIn(x, 0, 3);
        for (int day = 2; day <= 14; day++) {
            Check.held(x, 0, 0, day, 0, 15, 1);
        }
        emptyIn(x, 0, 28);
        x.run(14);
        x.leave(0, 30);
        Check.is("pages", x.about(5), 15 * 14);
        emptyIn(x, 0, 30 + 14);
    }

    private static void promise24SixtyDays() {
        StenoRooms x = Check.staff(1);
        Check.held(x, 0, 0, 0, 0, 16, 9);
        x.run(1);
        x.leave(0, 30);
        // Each of these days is not for typing, and brings as much as another one types.
        for (int day = 31; day <= 40; day++) {
            Check.held(x, 0, 0, day, 0, 16, 1);
        }
        emptyIn(x, 0, 59);
        Check.held(x, 0, 0, 41, 0, 1, 9);
        emptyIn(x, 0, 60);
        Check.held(x, 0, 0, 42, 0, 1, 9);
        emptyIn(x, 0, NONE);
        x.run(1);
        emptyIn(x, 0, 60);
    }

    private static void promise24Refusals() {
        StenoRooms x = new StenoRooms();
        Check.index("emptyIn(0) of none", x, () -> x.emptyIn(0));
        x.hire(1);
        Check.index("emptyIn(-1)", x, () -> x.emptyIn(-1));
        Check.index("emptyIn(1)", x, () -> x.emptyIn(1));
    }

    private static void ifHired(StenoRooms x, int speed, int n, int due) {
        Check.tells("ifHired(" + speed + ", " + n + ")", x, due, () -> x.ifHired(speed, n));
    }

    private static void promise25Saves() {
        StenoRooms x = Check.staff(1);
        x.set(2, 0);
        x.session(0, 0, 0, 8, 2);
        x.session(0, 0, 8, 8, 2);
        // Alone: 32 pages behind day 0, so that two are late on it, one on day 1, none on day 2.
        // With another one: each types 8 of 16 pages on day 0, so that two are late on it, none on day 1.
        ifHired(x, 1, 1, 0);
        ifHired(x, 1, 2, 5);
        ifHired(x, 1, 30, 5);
        ifHired(x, 2, 1, 5);
        ifHired(x, 20, 30, 10);
        x.giveAll();
        ifHired(x, 20, 30, 0);
    }

    /** Another one who is slow takes a session from one who is fast. */
    private static void promise25Costs() {
        StenoRooms x = Check.staff(20);
        x.set(2, 0);
        x.set(3, 1);
        x.session(0, 0, 0, 4, 9);
        x.session(0, 0, 8, 4, 9);
        ifHired(x, 1, 1, NONE);
        ifHired(x, 1, 2, -2);
        ifHired(x, 2, 2, NONE);
        ifHired(x, 20, 30, 0);
        x.give(0, 0);
        x.set(0, 3);
        ifHired(x, 1, 30, 0);
    }

    private static void promise25Refusals() {
        StenoRooms x = new StenoRooms();
        Check.argument("ifHired(0, 1)", x, () -> x.ifHired(0, 1));
        Check.argument("ifHired(21, 1)", x, () -> x.ifHired(21, 1));
        Check.argument("ifHired(1, 0)", x, () -> x.ifHired(1, 0));
        Check.argument("ifHired(1, 31)", x, () -> x.ifHired(1, 31));
        ifHired(x, 20, 30, 0);
        for (int i = 0; i < 6; i++) {
            ifHired(x, 1, 1, 0);
            x.hire(1);
        }
        Check.notNow("ifHired(1, 1) of a seventh", x, () -> x.ifHired(1, 1));
        Check.argument("ifHired(0, 1) of a seventh", x, () -> x.ifHired(0, 1));
        Check.argument("ifHired(1, 31) of a seventh", x, () -> x.ifHired(1, 31));
    }

    private static void freeRoom(StenoRooms x, int day, int first, int slots, int due) {
        Check.tells("freeRoom(" + day + ", " + first + ", " + slots + ")", x, due,
            () -> x.freeRoom(day, first, slots));
    }

    private static void promise26FreeRoom() {
        StenoRooms x = new StenoRooms();
        freeRoom(x, 0, 0, 16, 0);
        x.session(0, 2, 4, 4, 1);
        x.session(1, 2, 0, 16, 1);
        x.session(2, 2, 15, 1, 1);
        x.session(3, 2, 0, 1, 1);
        freeRoom(x, 2, 0, 4, 0);
        freeRoom(x, 2, 8, 8, 0);
        freeRoom(x, 2, 3, 2, 2);
        freeRoom(x, 2, 7, 1, 2);
        freeRoom(x, 2, 7, 9, 3);
        freeRoom(x, 2, 0, 16, 4);
        x.session(4, 2, 7, 1, 1);
        freeRoom(x, 2, 0, 16, NONE);
        freeRoom(x, 1, 0, 16, 0);
        freeRoom(x, 3, 0, 16, 0);
        freeRoom(x, 999, 15, 1, 0);
        for (int i = 0; i < 11; i++) {
            x.session(4, 500, i, 1, 1);
        }
        Check.is("sessions", x.about(1), 16);
        freeRoom(x, 999, 0, 16, 0);
    }

    private static void promise26Refusals() {
        StenoRooms x = new StenoRooms();
        x.run(1);
        Check.argument("yesterday", x, () -> x.freeRoom(0, 0, 1));
        Check.argument("day 1000", x, () -> x.freeRoom(1000, 0, 1));
        Check.argument("first -1", x, () -> x.freeRoom(1, -1, 1));
        Check.argument("first 16", x, () -> x.freeRoom(1, 16, 1));
        Check.argument("first 16, slots 0", x, () -> x.freeRoom(1, 16, 0));
        Check.argument("slots 0", x, () -> x.freeRoom(1, 0, 0));
        Check.argument("slots 17", x, () -> x.freeRoom(1, 0, 17));
        Check.argument("slots behind the day", x, () -> x.freeRoom(1, 15, 2));
        Check.argument("most slots", x, () -> x.freeRoom(1, 1, Integer.MAX_VALUE));
        freeRoom(x, 1, 15, 1, 0);
    }
}
