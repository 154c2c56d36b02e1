/** Promises 11 to 20: the actions. */
public final class ActionsTest {
    private static final int NONE = StenoRooms.NONE;

    public static void main(String[] args) {
        promise11Hire();
        promise12Order();
        promise12Ranges();
        promise12Taken();
        promise12Full();
        promise12DaysGoneBy();
        promise13Cancel();
        promise14Give();
        promise14Refusals();
        promise15FewestSlots();
        promise15FewestPages();
        promise15InOrder();
        promise16Lengthens();
        promise16DrivesOut();
        promise16Gap();
        promise16Gone();
        promise16OrderBehindIt();
        promise16FreesOverlap();
        promise16Refusals();
        promise17Leave();
        promise17Refusals();
        promise18Pay();
        promise18Fines();
        promise18TypesInOrder();
        promise18TypesOnWithinASlot();
        promise18WhatIsLeftOnTheDesk();
        promise18ManyTranscripts();
        promise18OnLeave();
        promise18Refusals();
        promise19Set();
        promise19SessionsKeep();
        promise20TakesBackEachAction();
        promise20Fourteen();
        promise20WhatIsNoAction();
        Check.end("ActionsTest");
    }

    private static void promise11Hire() {
        StenoRooms x = new StenoRooms();
        Check.argument("hire(0)", x, () -> x.hire(0));
        Check.argument("hire(21)", x, () -> x.hire(21));
        Check.argument("hire(-1)", x, () -> x.hire(-1));
        Check.is("hire(1)", x.hire(1), 0);
        Check.is("hire(20)", x.hire(20), 1);
        for (int p = 2; p < 6; p++) {
            Check.is("hire(7)", x.hire(7), p);
        }
        Check.notNow("the seventh", x, () -> x.hire(7));
        Check.argument("hire(21) of a seventh", x, () -> x.hire(21));
        Check.is("speed of 0", x.stenographer(0, 0), 1);
        Check.is("speed of 1", x.stenographer(1, 0), 20);
        Check.is("speed of 5", x.stenographer(5, 0), 7);
    }

    private static void promise12Order() {
        StenoRooms x = new StenoRooms();
        Check.is("the first one", x.session(2, 5, 3, 2, 4), 0);
        Check.is("a later day", x.session(0, 6, 0, 1, 1), 1);
        Check.is("an earlier slot", x.session(4, 5, 2, 1, 1), 0);
        Check.is("a later room", x.session(3, 5, 3, 1, 1), 2);
        Check.is("an earlier room", x.session(1, 5, 3, 16 - 3, 9), 1);
        Check.is("an earlier day", x.session(4, 0, 15, 1, 1), 0);
        Check.is("the last day", x.session(4, 999, 15, 1, 1), 6);
        Check.same("sessions", Check.sessions(x), "4 0 15 1 1 -1, 4 5 2 1 1 -1, 1 5 3 13 9 -1, 2 5 3 2 4 -1, "
            + "3 5 3 1 1 -1, 0 6 0 1 1 -1, 4 999 15 1 1 -1");
    }

    private static void promise12Ranges() {
        StenoRooms x = new StenoRooms();
        Check.index("room -1", x, () -> x.session(-1, 0, 0, 1, 1));
        Check.index("room 5", x, () -> x.session(5, 0, 0, 1, 1));
        Check.index("room 5 and all else wrong", x, () -> x.session(5, -1, 16, 0, 0));
        Check.argument("day -1", x, () -> x.session(0, -1, 0, 1, 1));
        Check.argument("day 1000", x, () -> x.session(0, 1000, 0, 1, 1));
        Check.argument("first -1", x, () -> x.session(0, 0, -1, 1, 1));
        Check.argument("first 16", x, () -> x.session(0, 0, 16, 1, 1));
        Check.argument("first 16, slots 0", x, () -> x.session(0, 0, 16, 0, 1));
        Check.argument("slots 0", x, () -> x.session(0, 0, 0, 0, 1));
        Check.argument("slots 17", x, () -> x.session(0, 0, 0, 17, 1));
        Check.argument("slots behind the day", x, () -> x.session(0, 0, 10, 7, 1));
        Check.argument("most slots", x, () -> x.session(0, 0, 10, Integer.MAX_VALUE, 1));
        Check.argument("talk 0", x, () -> x.session(0, 0, 0, 1, 0));
        Check.argument("talk 10", x, () -> x.session(0, 0, 0, 1, 10));
        Check.is("16 slots", x.session(0, 0, 0, 16, 1), 0);
        Check.is("room 4", x.session(4, 0, 10, 6, 9), 1);
    }

    private static void promise12Taken() {
        StenoRooms x = new StenoRooms();
        x.session(1, 3, 4, 4, 1);
        Check.notNow("the same slots", x, () -> x.session(1, 3, 4, 4, 1));
        Check.notNow("its first slot", x, () -> x.session(1, 3, 2, 3, 1));
        Check.notNow("its last slot", x, () -> x.session(1, 3, 7, 1, 1));
        Check.notNow("within it", x, () -> x.session(1, 3, 5, 1, 1));
        Check.notNow("around it", x, () -> x.session(1, 3, 0, 16, 1));
        Check.argument("talk 0 in taken slots", x, () -> x.session(1, 3, 4, 4, 0));
        Check.is("right ahead of it", x.session(1, 3, 2, 2, 1), 0);
        Check.is("right behind it", x.session(1, 3, 8, 1, 1), 2);
        Check.is("another room", x.session(2, 3, 4, 4, 1), 2);
        Check.is("another day", x.session(1, 2, 4, 4, 1), 0);
    }

    private static void promise12Full() {
        StenoRooms x = new StenoRooms();
        for (int i = 0; i < 16; i++) {
            Check.is("session " + i, x.session(0, 0, i, 1, 1), i);
        }
        Check.notNow("a seventeenth", x, () -> x.session(1, 0, 0, 1, 1));
        Check.argument("a seventeenth with talk 10", x, () -> x.session(1, 0, 0, 1, 10));
        Check.index("a seventeenth in room 5", x, () -> x.session(5, 0, 0, 1, 1));
        x.cancel(7);
        Check.is("in place of one that was cancelled", x.session(0, 0, 7, 1, 1), 7);
    }

    private static void promise12DaysGoneBy() {
        StenoRooms x = new StenoRooms();
        x.run(1);
        Check.argument("yesterday", x, () -> x.session(0, 0, 0, 1, 1));
        Check.is("today", x.session(0, 1, 0, 1, 1), 0);
        for (int i = 0; i < 34; i++) {
            x.run(30);
        }
        Check.is("today", x.about(2), 1021);
        Check.argument("no day is left", x, () -> x.session(0, 1021, 0, 1, 1));
        Check.argument("the day 999 has gone by", x, () -> x.session(0, 999, 0, 1, 1));
    }

    private static void promise13Cancel() {
        StenoRooms x = new StenoRooms();
        Check.index("cancel(0) of none", x, () -> x.cancel(0));
        x.hire(5);
        x.session(0, 0, 0, 1, 1);
        x.session(1, 0, 0, 1, 2);
        x.session(2, 0, 0, 1, 3);
        x.give(1, 0);
        Check.index("cancel(-1)", x, () -> x.cancel(-1));
        Check.index("cancel(3)", x, () -> x.cancel(3));
        Check.is("cancel(1)", x.cancel(1), 2);
        Check.same("the others", Check.sessions(x), "0 0 0 1 1 -1, 2 0 0 1 3 -1");
        Check.is("slots today", x.stenographer(0, 5), 0);
        Check.is("cancel(1)", x.cancel(1), 1);
        Check.is("cancel(0)", x.cancel(0), 0);
        x.run(1);
        Check.is("lost", x.about(6), 0);
    }

    private static void promise14Give() {
        StenoRooms x = new StenoRooms();
        x.hire(5);
        x.hire(6);
        x.session(0, 0, 0, 6, 1);
        Check.is("give(0, NONE) without one", x.give(0, NONE), NONE);
        Check.is("give(0, 0)", x.give(0, 0), NONE);
        Check.is("give(0, 1)", x.give(0, 1), 0);
        Check.is("its stenographer", x.sessionOf(0, 5), 1);
        x.set(0, 1);
        x.set(1, 1);
        Check.is("give(0, 1) to the one who has it", x.give(0, 1), 1);
        Check.notNow("give(0, 0) beyond the settings", x, () -> x.give(0, 0));
        Check.is("give(0, NONE)", x.give(0, NONE), 1);
        Check.is("its stenographer", x.sessionOf(0, 5), NONE);
        Check.notNow("give(0, 1) beyond the settings", x, () -> x.give(0, 1));
    }

    private static void promise14Refusals() {
        StenoRooms x = new StenoRooms();
        x.hire(5);
        x.hire(5);
        x.session(0, 0, 0, 4, 1);
        Check.index("give(-1, 0)", x, () -> x.give(-1, 0));
        Check.index("give(1, 0)", x, () -> x.give(1, 0));
        Check.index("give(1, NONE)", x, () -> x.give(1, NONE));
        Check.index("give(0, -2)", x, () -> x.give(0, -2));
        Check.index("give(0, 2)", x, () -> x.give(0, 2));
        x.leave(1, 1);
        Check.notNow("give(0, 1) on leave", x, () -> x.give(0, 1));
        x.give(0, 0);
        x.session(1, 0, 3, 1, 1);
        Check.notNow("give(1, 0) in the same slot", x, () -> x.give(1, 0));
        x.session(2, 0, 4, 3, 1);
        Check.notNow("give(2, 0) without a break", x, () -> x.give(2, 0));
        Check.is("cancel(2)", x.cancel(2), 2);
        x.session(2, 0, 4, 2, 1);
        Check.is("give(2, 0): six slots", x.give(2, 0), NONE);
        x.session(3, 0, 7, 5, 1);
        Check.notNow("give(3, 0): eleven slots", x, () -> x.give(3, 0));
        x.cancel(3);
        x.session(3, 0, 7, 4, 1);
        Check.is("give(3, 0): ten slots", x.give(3, 0), NONE);
    }

    private static void promise15FewestSlots() {
        StenoRooms x = new StenoRooms();
        Check.is("giveAll() of nothing", x.giveAll(), 0);
        x.hire(1);
        x.hire(1);
        x.session(0, 0, 0, 3, 1);
        x.session(0, 0, 4, 2, 1);
        x.session(0, 0, 8, 1, 1);
        x.session(0, 0, 10, 1, 1);
        x.session(0, 1, 0, 1, 1);
        Check.is("giveAll()", x.giveAll(), 5);
        Check.same("sessions", Check.sessions(x),
            "0 0 0 3 1 0, 0 0 4 2 1 1, 0 0 8 1 1 1, 0 0 10 1 1 0, 0 1 0 1 1 0");
        Check.is("giveAll() again", x.giveAll(), 0);
    }

    private static void promise15FewestPages() {
        StenoRooms x = new StenoRooms();
        x.hire(1);
        x.hire(1);
        x.hire(1);
        Check.held(x, 0, 0, 0, 0, 6, 5);
        Check.held(x, 1, 1, 0, 0, 6, 4);
        Check.held(x, 2, 2, 0, 0, 6, 4);
        x.run(1);
        Check.same("desks", Check.desk(x, 0) + ", " + Check.desk(x, 1) + ", " + Check.desk(x, 2), "20:2, 14:2, 14:2");
        x.session(0, 1, 0, 2, 1);
        x.session(0, 1, 2, 2, 1);
        x.session(0, 1, 4, 2, 1);
        Check.is("giveAll()", x.giveAll(), 3);
        Check.same("sessions", Check.sessions(x), "0 1 0 2 1 1, 0 1 2 2 1 2, 0 1 4 2 1 0");
    }

    private static void promise15InOrder() {
        StenoRooms x = new StenoRooms();
        x.hire(1);
        x.hire(1);
        x.leave(0, 1);
        x.session(0, 0, 0, 6, 1);
        x.session(1, 0, 5, 2, 1);
        x.session(2, 0, 6, 1, 1);
        x.session(3, 0, 8, 5, 1);
        x.session(4, 0, 9, 4, 1);
        Check.is("giveAll()", x.giveAll(), 2);
        Check.same("sessions", Check.sessions(x),
            "0 0 0 6 1 1, 1 0 5 2 1 -1, 2 0 6 1 1 -1, 3 0 8 5 1 -1, 4 0 9 4 1 1");
        x.leave(0, 0);
        Check.is("giveAll() behind the leave", x.giveAll(), 2);
        Check.same("sessions", Check.sessions(x),
            "0 0 0 6 1 1, 1 0 5 2 1 0, 2 0 6 1 1 -1, 3 0 8 5 1 0, 4 0 9 4 1 1");
    }

    private static void promise16Lengthens() {
        StenoRooms x = new StenoRooms();
        x.hire(1);
        x.session(0, 0, 3, 2, 1);
        x.give(0, 0);
        Check.is("extend(0, 1)", x.extend(0, 1), 3);
        Check.is("extend(0, 9): beyond the settings", x.extend(0, 9), 12);
        Check.same("sessions", Check.sessions(x), "0 0 3 12 1 0");
        Check.is("extend(0, 16): as far as the day goes", x.extend(0, 16), 13);
        Check.is("extend(0, 1): not at all", x.extend(0, 1), 13);
        Check.same("sessions", Check.sessions(x), "0 0 3 13 1 0");
    }

    private static void promise16DrivesOut() {
        StenoRooms x = Check.staff(5, 5, 5);
        Check.held(x, 0, 0, 0, 0, 2, 1);
        Check.held(x, 0, 0, 0, 3, 2, 2);
        Check.held(x, 1, 0, 0, 6, 3, 3);
        Check.held(x, 2, 0, 0, 10, 4, 4);
        Check.held(x, 1, 1, 0, 2, 1, 5);
        Check.held(x, 2, 0, 1, 0, 9, 6);
        Check.is("extend(0, 4)", x.extend(0, 4), 6);
        Check.same("sessions", Check.sessions(x),
            "0 0 0 6 1 0, 1 0 2 1 5 1, 0 0 6 2 2 -1, 0 0 8 3 3 -1, 0 0 11 4 4 -1, 0 1 0 9 6 2");
    }

    private static void promise16Gap() {
        StenoRooms x = Check.staff(5, 5);
        Check.held(x, 0, 0, 0, 0, 2, 1);
        Check.held(x, 0, 0, 0, 3, 2, 2);
        Check.held(x, 0, 0, 0, 6, 2, 3);
        Check.held(x, 1, 0, 0, 9, 3, 4);
        Check.is("extend(0, 1): up to the next one", x.extend(0, 1), 3);
        Check.same("sessions", Check.sessions(x), "0 0 0 3 1 0, 0 0 3 2 2 0, 0 0 6 2 3 0, 0 0 9 3 4 1");
        Check.is("extend(0, 1): as much as the break", x.extend(0, 1), 4);
        Check.same("sessions", Check.sessions(x), "0 0 0 4 1 0, 0 0 4 2 2 -1, 0 0 6 2 3 0, 0 0 9 3 4 1");
        Check.is("extend(1, 2)", x.extend(1, 2), 4);
        Check.same("sessions", Check.sessions(x), "0 0 0 4 1 0, 0 0 4 4 2 -1, 0 0 8 2 3 -1, 0 0 10 3 4 -1");
    }

    private static void promise16Gone() {
        StenoRooms x = Check.staff(5);
        x.session(2, 4, 1, 2, 1);
        x.session(2, 4, 8, 5, 2);
        x.session(2, 4, 13, 2, 3);
        x.session(2, 4, 15, 1, 4);
        x.session(3, 4, 15, 1, 5);
        x.session(2, 5, 0, 1, 6);
        Check.is("extend(0, 9)", x.extend(0, 9), 11);
        Check.same("sessions", Check.sessions(x), "2 4 1 11 1 -1, 2 4 12 4 2 -1, 3 4 15 1 5 -1, 2 5 0 1 6 -1");
        Check.is("extend(0, 16)", x.extend(0, 16), 15);
        Check.same("sessions", Check.sessions(x), "2 4 1 15 1 -1, 3 4 15 1 5 -1, 2 5 0 1 6 -1");
        x.run(5);
        Check.is("lost", x.about(6), 2);
        x.session(2, 9, 0, 1, 1);
        x.session(2, 9, 13, 3, 2);
        Check.is("extend(1, 14)", x.extend(1, 14), 15);
        Check.same("the last slot is still one", Check.sessions(x), "2 5 0 1 6 -1, 2 9 0 15 1 -1, 2 9 15 1 2 -1");
    }

    private static void promise16OrderBehindIt() {
        StenoRooms x = Check.staff(5);
        x.session(3, 0, 0, 2, 1);
        x.session(3, 0, 2, 2, 2);
        x.session(0, 0, 3, 1, 3);
        x.session(1, 0, 5, 1, 4);
        x.session(4, 0, 5, 1, 5);
        x.session(0, 0, 6, 1, 6);
        Check.is("extend(0, 3)", x.extend(0, 3), 5);
        Check.same("sessions", Check.sessions(x), "3 0 0 5 1 -1, 0 0 3 1 3 -1, 1 0 5 1 4 -1, 3 0 5 2 2 -1, "
            + "4 0 5 1 5 -1, 0 0 6 1 6 -1");
    }

    private static void promise16FreesOverlap() {
        StenoRooms x = Check.staff(5, 5);
        Check.held(x, 0, 0, 0, 0, 2, 1);
        Check.held(x, 0, 1, 0, 3, 2, 2);
        Check.held(x, 1, 2, 0, 3, 2, 3);
        Check.held(x, 0, 3, 0, 5, 1, 4);
        Check.held(x, 0, 1, 1, 3, 1, 5);
        x.session(4, 0, 3, 2, 6);
        Check.is("extend(0, 1)", x.extend(0, 1), 3);
        Check.is("without a stenographer", x.about(3), 1);
        Check.is("extend(0, 1)", x.extend(0, 1), 4);
        Check.same("sessions", Check.sessions(x),
            "0 0 0 4 1 0, 1 0 3 2 2 -1, 2 0 3 2 3 1, 4 0 3 2 6 -1, 3 0 5 1 4 0, 1 1 3 1 5 0");
        StenoRooms y = Check.staff(5);
        Check.held(y, 0, 1, 0, 4, 3, 1);
        Check.held(y, 0, 0, 0, 2, 1, 2);
        Check.is("extend(0, 3)", y.extend(0, 3), 4);
        Check.same("sessions", Check.sessions(y), "0 0 2 4 2 0, 1 0 4 3 1 -1");
        y.give(0, NONE);
        y.give(1, 0);
        Check.is("extend(0, 1) without a stenographer", y.extend(0, 1), 5);
        Check.is("the other one", y.sessionOf(1, 5), 0);
    }

    private static void promise16Refusals() {
        StenoRooms x = new StenoRooms();
        Check.index("extend(0, 1) of none", x, () -> x.extend(0, 1));
        x.session(0, 0, 0, 1, 1);
        Check.index("extend(-1, 1)", x, () -> x.extend(-1, 1));
        Check.index("extend(1, 1)", x, () -> x.extend(1, 1));
        Check.index("extend(1, 0)", x, () -> x.extend(1, 0));
        Check.argument("extend(0, 0)", x, () -> x.extend(0, 0));
        Check.argument("extend(0, 17)", x, () -> x.extend(0, 17));
        Check.argument("extend(0, greatest)", x, () -> x.extend(0, Integer.MAX_VALUE));
        Check.is("extend(0, 16)", x.extend(0, 16), 16);
    }

    private static void promise17Leave() {
        StenoRooms x = Check.staff(5, 5);
        x.run(2);
        for (int day = 2; day <= 5; day++) {
            Check.held(x, 0, 0, day, 0, 1, 1);
            Check.held(x, 1, 1, day, 0, 1, 1);
        }
        Check.is("leave(0, 2)", x.leave(0, 2), 2);
        Check.is("the day up to which", x.stenographer(0, 1), 4);
        Check.is("the other's", x.stenographer(1, 1), 0);
        Check.same("sessions", Check.sessions(x), "0 2 0 1 1 -1, 1 2 0 1 1 1, 0 3 0 1 1 -1, 1 3 0 1 1 1, "
            + "0 4 0 1 1 0, 1 4 0 1 1 1, 0 5 0 1 1 0, 1 5 0 1 1 1");
        Check.is("leave(0, 0): none", x.leave(0, 0), 0);
        Check.is("the day up to which", x.stenographer(0, 1), 2);
        Check.is("give(0, 0) then", x.give(0, 0), NONE);
        Check.is("leave(0, 30)", x.leave(0, 30), 3);
        Check.is("the day up to which", x.stenographer(0, 1), 32);
        Check.is("leave(0, 3) in its place", x.leave(0, 3), 0);
        Check.is("give(6, 0) behind it", x.give(6, 0), NONE);
        Check.notNow("give(4, 0) within it", x, () -> x.give(4, 0));
    }

    private static void promise17Refusals() {
        StenoRooms x = new StenoRooms();
        Check.index("leave(0, 1) of none", x, () -> x.leave(0, 1));
        x.hire(1);
        Check.index("leave(-1, 1)", x, () -> x.leave(-1, 1));
        Check.index("leave(1, 1)", x, () -> x.leave(1, 1));
        Check.index("leave(1, 31)", x, () -> x.leave(1, 31));
        Check.argument("leave(0, -1)", x, () -> x.leave(0, -1));
        Check.argument("leave(0, 31)", x, () -> x.leave(0, 31));
    }

    private static void promise18Pay() {
        StenoRooms x = Check.staff(20, 20, 20);
        Check.held(x, 0, 0, 0, 0, 8, 1);
        Check.held(x, 1, 1, 0, 0, 4, 1);
        Check.held(x, 1, 1, 0, 5, 5, 1);
        Check.held(x, 2, 2, 0, 0, 16, 1);
        Check.held(x, 0, 0, 1, 0, 9, 1);
        x.session(3, 0, 0, 1, 1);
        Check.is("run(1)", x.run(1), 0);
        Check.is("8 slots", x.stenographer(0, 6), 16);
        Check.is("9 slots in two sessions", x.stenographer(1, 6), 19);
        Check.is("16 slots", x.stenographer(2, 6), 40);
        Check.is("all pay", x.about(7), 75);
        Check.is("lost", x.about(6), 1);
        Check.is("sessions", x.about(1), 1);
        x.run(1);
        Check.is("another day counts anew", x.stenographer(0, 6), 35);
        Check.is("today", x.about(2), 2);
    }

    private static void promise18Fines() {
        StenoRooms x = Check.staff(1);
        x.set(2, 0);
        Check.held(x, 0, 0, 0, 0, 16, 9);
        Check.is("run(1): due today", x.run(1), 5);
        Check.same("desk", Check.desk(x, 0), "144:0");
        Check.is("run(8)", x.run(8), 40);
        Check.same("desk", Check.desk(x, 0), "16:0");
        Check.is("run(1): done on this day", x.run(1), 0);
        Check.same("desk", Check.desk(x, 0), "");
        Check.is("fines so far", x.about(8), 45);
        x.set(2, 1);
        x.set(3, 99);
        Check.held(x, 0, 0, 10, 0, 16, 9);
        Check.held(x, 0, 0, 12, 0, 16, 9);
        Check.is("run(1): not due yet", x.run(1), 0);
        Check.is("run(1): due on the next day", x.run(1), 99);
        Check.is("run(1): the other is not due", x.run(1), 99);
        Check.is("run(1): two of them", x.run(1), 198);
        Check.is("fines so far", x.about(8), 441);
    }

    private static void promise18TypesInOrder() {
        StenoRooms x = Check.staff(1);
        x.set(2, 5);
        Check.held(x, 0, 0, 0, 0, 16, 9);
        x.run(1);
        x.set(2, 1);
        Check.held(x, 0, 0, 1, 0, 14, 1);
        x.run(1);
        Check.same("what is due earliest", Check.desk(x, 0), "144:5 12:2");
        x.set(2, 0);
        Check.held(x, 0, 0, 2, 0, 14, 1);
        x.run(1);
        Check.same("of two, the one that stands first", Check.desk(x, 0), "144:5 10:2 14:2");
        Check.is("pages typed", x.about(10), 4);
        x.run(1);
        Check.same("then the next one", Check.desk(x, 0), "144:5 8:2");
        Check.is("done", x.about(9), 1);
        Check.is("pages typed", x.about(10), 20);
        x.run(1);
        Check.same("then the one that is due later", Check.desk(x, 0), "136:5");
        Check.is("done", x.about(9), 2);
    }

    private static void promise18TypesOnWithinASlot() {
        StenoRooms x = Check.staff(20, 3);
        Check.held(x, 0, 0, 0, 0, 1, 9);
        Check.held(x, 0, 0, 0, 1, 14, 1);
        Check.held(x, 1, 1, 0, 0, 14, 1);
        Check.held(x, 1, 1, 0, 15, 1, 6);
        x.run(1);
        Check.same("20 pages in one slot", Check.desk(x, 0), "3:2");
        Check.same("3 pages in one slot", Check.desk(x, 1), "11:2 6:2");
        Check.is("pages typed", x.about(10), 23);
        x.run(1);
        Check.same("desk 0", Check.desk(x, 0), "");
        Check.same("desk 1", Check.desk(x, 1), "");
        Check.is("only pages that are there", x.about(10), 43);
        Check.is("done", x.about(9), 4);
    }

    private static void promise18WhatIsLeftOnTheDesk() {
        StenoRooms x = Check.staff(1, 1);
        Check.held(x, 0, 0, 0, 0, 4, 2);
        Check.held(x, 1, 1, 0, 0, 9, 9);
        Check.held(x, 0, 0, 0, 4, 4, 2);
        Check.held(x, 0, 0, 0, 8, 8, 2);
        x.run(1);
        x.set(2, 4);
        Check.held(x, 0, 0, 1, 0, 8, 3);
        Check.same("desk 0", Check.desk(x, 0), "8:2 8:2 16:2");
        Check.same("desk 1", Check.desk(x, 1), "74:2");
        x.run(1);
        Check.same("desk 0", Check.desk(x, 0), "8:2 16:2 24:5");
        Check.same("desk 1", Check.desk(x, 1), "58:2");
        x.run(2);
        Check.same("desk 0", Check.desk(x, 0), "16:5");
        Check.same("desk 1", Check.desk(x, 1), "26:2");
    }

    /** There is no limit on the transcripts. */
    private static void promise18ManyTranscripts() {
        StenoRooms x = Check.staff(1, 20);
        for (int day = 0; day < 20; day++) {
            for (int slot = 0; slot < 16; slot++) {
                Check.held(x, 0, 0, day, slot, 1, 1 + slot % 9);
            }
            x.run(1);
        }
        Check.is("transcripts", x.stenographer(0, 3), 320);
        Check.is("pages", x.stenographer(0, 4), 20 * 73);
        Check.is("fines", x.about(8), 5 * 16 * (18 * 19 / 2));
        for (int i = 0; i < 320; i++) {
            Check.is("pages of transcript " + i, x.transcript(0, i, 0), 1 + i % 16 % 9);
            Check.is("day of transcript " + i, x.transcript(0, i, 1), i / 16 + 2);
        }
        String many = Check.state(x);
        x.save(0);
        x.run(30);
        x.undo();
        Check.same("behind undo()", Check.state(x), many);
        x.run(30);
        x.restore(0);
        Check.same("behind restore()", Check.state(x), many);
        x.run(1);
        Check.is("done", x.about(9), 5);
        Check.is("emptyIn(0)", x.emptyIn(0), StenoRooms.NONE);
    }

    private static void promise18OnLeave() {
        StenoRooms x = Check.staff(20);
        Check.held(x, 0, 0, 0, 0, 16, 9);
        x.run(1);
        x.leave(0, 3);
        Check.is("run(3)", x.run(3), 10);
        Check.same("nothing is typed on leave", Check.desk(x, 0), "144:2");
        Check.is("run(1)", x.run(1), 0);
        Check.same("then it is", Check.desk(x, 0), "");
    }

    private static void promise18Refusals() {
        StenoRooms x = new StenoRooms();
        Check.argument("run(0)", x, () -> x.run(0));
        Check.argument("run(31)", x, () -> x.run(31));
        Check.argument("run(-1)", x, () -> x.run(-1));
        x.session(0, 29, 0, 1, 1);
        x.session(0, 30, 0, 1, 1);
        Check.is("run(30)", x.run(30), 0);
        Check.same("day 30", Check.about(x, 0, 6), "0 1 30 1 0 0 1");
    }

    private static void promise19Set() {
        StenoRooms x = new StenoRooms();
        int[] lows = {1, 1, 0, 0};
        int[] highs = {16, 16, 30, 99};
        int[] firsts = {6, 10, 2, 5};
        for (int what = 0; what < 4; what++) {
            int w = what;
            Check.argument("too little in " + w, x, () -> x.set(w, lows[w] - 1));
            Check.argument("too much in " + w, x, () -> x.set(w, highs[w] + 1));
            Check.is("set the least in " + w, x.set(w, lows[w]), firsts[w]);
            Check.is("set the most in " + w, x.set(w, highs[w]), lows[w]);
            Check.is("setting " + w, x.setting(w), highs[w]);
        }
        Check.argument("set(-1, 1)", x, () -> x.set(-1, 1));
        Check.argument("set(4, 1)", x, () -> x.set(4, 1));
    }

    private static void promise19SessionsKeep() {
        StenoRooms x = Check.staff(5);
        Check.held(x, 0, 0, 0, 0, 5, 1);
        Check.held(x, 0, 0, 0, 10, 2, 1);
        x.set(0, 4);
        x.set(1, 6);
        Check.is("without a stenographer", x.about(3), 0);
        x.session(1, 0, 8, 1, 1);
        Check.is("whyNot: five in a row are too many", x.whyNot(1, 0), 3);
        x.set(0, 5);
        Check.is("whyNot: eight in all are too many", x.whyNot(1, 0), 4);
        x.set(1, 8);
        Check.is("whyNot: both are allowed", x.whyNot(1, 0), 0);
    }

    private static void promise20TakesBackEachAction() {
        StenoRooms x = Check.loaded("Jn05n09s0000063s0006064s1000055g000");
        Check.notNow("undo() of nothing", x, x::undo);
        takesBack("hire", x, () -> x.hire(9));
        takesBack("session", x, () -> x.session(2, 0, 0, 1, 1));
        takesBack("cancel", x, () -> x.cancel(1));
        takesBack("give", x, () -> x.give(0, 1));
        takesBack("giveAll", x, x::giveAll);
        takesBack("extend", x, () -> x.extend(0, 5));
        takesBack("leave", x, () -> x.leave(0, 5));
        takesBack("run", x, () -> x.run(3));
        takesBack("set 0", x, () -> x.set(0, 9));
        takesBack("set 1", x, () -> x.set(1, 9));
        takesBack("set 2", x, () -> x.set(2, 9));
        takesBack("set 3", x, () -> x.set(3, 9));
        x.run(1);
        takesBack("run with transcripts", x, () -> x.run(3));
        Check.is("undo() of the first run", x.undo(), 0);
    }

    private static void takesBack(String what, StenoRooms x, Check.Call action) {
        String before = Check.state(x);
        x.giveAll();
        Check.is("undo() of giveAll", x.undo(), what.startsWith("run with") ? 1 : 0);
        action.answer();
        if (Check.state(x).equals(before)) {
            Check.same(what + " changes", "nothing", "something");
        }
        Check.is("undo() of " + what, x.undo(), what.startsWith("run with") ? 1 : 0);
        Check.same("the state behind undo() of " + what, Check.state(x), before);
    }

    private static void promise20Fourteen() {
        StenoRooms x = new StenoRooms();
        for (int v = 0; v < 20; v++) {
            x.set(3, v);
        }
        for (int left = 13; left >= 0; left--) {
            Check.is("undo()", x.undo(), left);
            Check.is("the fine", x.setting(3), 5 + left);
        }
        Check.notNow("undo() of a state that is forgotten", x, x::undo);
        x.set(3, 50);
        x.set(3, 51);
        Check.is("undo()", x.undo(), 1);
        x.set(3, 52);
        Check.is("undo()", x.undo(), 1);
        Check.is("the fine", x.setting(3), 50);
        Check.is("undo()", x.undo(), 0);
        Check.is("the fine", x.setting(3), 5);
    }

    private static void promise20WhatIsNoAction() {
        StenoRooms x = new StenoRooms();
        x.hire(1);
        x.set(3, 5);
        x.giveAll();
        x.run(1);
        x.leave(0, 0);
        Check.write(x, "J");
        x.save(0);
        x.about(0);
        x.coming(1, 0);
        x.emptyIn(0);
        x.ifHired(1, 1);
        x.runScript(1, 60001);
        x.simulate(1, 60);
        x.session(0, 3, 0, 1, 1);
        x.whyNot(0, 0);
        x.whom(0);
        x.give(0, NONE);
        Check.argument("a call that throws", x, () -> x.hire(0));
        Check.is("undo()", x.undo(), 6);
        Check.is("the text stays", x.errorPosition(), NONE);
        Check.is("states remembered", Check.undoAll(x), 6);
        Check.is("the text stays", x.clearText(), 1);
        Check.is("the save slot stays", x.restore(0), 1);
        Check.is("its stenographers", x.about(0), 1);
        StenoRooms y = new StenoRooms();
        y.session(0, 0, 0, 16, 1);
        Check.index("cancel", y, () -> y.cancel(1));
        Check.index("give", y, () -> y.give(0, 0));
        Check.argument("extend", y, () -> y.extend(0, 0));
        Check.index("leave", y, () -> y.leave(0, 0));
        Check.argument("run", y, () -> y.run(0));
        Check.argument("set", y, () -> y.set(0, 0));
        Check.notNow("session", y, () -> y.session(0, 0, 0, 1, 1));
        Check.is("states remembered behind refusals", Check.undoAll(y), 1);
    }
}
