/** Promises 29 and 30: the save slots. */
public final class SlotsTest {
    public static void main(String[] args) {
        Trial.runAll(SlotsTest.class);
    }

    private static Trial busy() {
        return Trial.staff(1, 3).held(0, 0, 0, 0, 9, 9).held(1, 1, 0, 4, 3, 8).held(0, 2, 2, 1, 5, 7)
            .calls("session(3, 1, 2, 3, 4)", "run(2)", "session(4, 5, 2, 3, 4)", "leave(1, 6)");
    }

    // ---- promise 29: save

    // "slot: 0 or 1", "Returns today."
    static void promise29ReturnsToday() {
        Trial.run("save(0) = 0", "save(1) = 0", "run(30)", "save(0) = 30", "run(1)", "save(1) = 31");
    }

    // "IndexOutOfBoundsException if there is no such save slot"
    static void promise29RefusesOtherSlots() {
        busy().calls("save(-1) throws index", "save(2) throws index", "save(-2147483648) throws index",
            "save(2147483647) throws index", "restore(0) throws state", "restore(1) throws state");
    }

    // "Stores the present state in a save slot": it changes nothing of the state, and is no action
    static void promise29ChangesNothingElse() {
        Trial t = busy();
        String before = t.present();
        t.calls("save(1) = 2");
        Trial.same("behind save(1)", t.present(), before);
        t.calls("undo() = 13");
    }

    static void promise29InPlaceOfWhatWasSaved() {
        Trial.run("hire(1)", "save(0) = 0", "run(7)", "save(0) = 7", "run(3)", "restore(0) = 7", "restore(0) = 7",
            "restore(1) throws state");
    }

    /** What is done later does not touch what has been saved. */
    static void promise29StaysAsItIs() {
        Trial t = busy().calls("save(1) = 2");
        String saved = t.present();
        t.calls("set(0, 1)", "set(1, 1)", "set(2, 9)", "set(3, 9)", "hire(9)", "give(0, -1)", "extend(0, 9)", "cancel(1)",
            "session(0, 40, 0, 1, 1)", "leave(0, 3)", "run(5)", "save(0) = 7", "restore(1) = 2");
        Trial.same("what was saved", t.present(), saved);
    }

    static void promise29OfTheLargestState() {
        Trial t = Trial.staff(1, 1, 1, 1, 1, 1);
        for (int i = 0; i < 16; i++) {
            t.held(i % 6, i % 5, 0, i, 1, 9);
        }
        t.calls("run(1)");
        for (int i = 0; i < 16; i++) {
            t.calls("session(" + i % 5 + ", " + (2 + i) + ", " + i + ", 1, 9)");
        }
        String saved = t.present();
        t.calls("save(0) = 1", "run(30)", "about(1) = 0", "restore(0) = 1");
        Trial.same("what was saved", t.present(), saved);
    }

    // ---- promise 30: restore

    // "IllegalStateException if nothing has been saved in it since the last load"
    static void promise30NothingSaved() {
        Trial.run("hire(1)", "restore(0) throws state", "restore(1) throws state", "save(1)", "restore(0) throws state",
            "restore(1) = 0");
    }

    static void promise30NothingSavedSinceTheLastLoad() {
        new Trial().text("J").calls("hire(1)", "save(0)", "save(1)", "load() = 0", "restore(0) throws state",
            "restore(1) throws state", "save(0) = 0", "restore(0) = 0", "restore(1) throws state", "about(0) = 0");
    }

    static void promise30RefusedLoadsEmptyNoSlot() {
        new Trial().text("Jx").calls("hire(1)", "save(0)", "hire(1)", "load() throws state", "restore(0) = 0", "about(0) = 1");
    }

    // "IndexOutOfBoundsException if there is no such save slot"
    static void promise30RefusesOtherSlots() {
        busy().calls("save(0)", "save(1)", "hire(1)", "restore(-1) throws index", "restore(2) throws index",
            "restore(-2147483648) throws index", "restore(2147483647) throws index");
        Trial.run("restore(2) throws index", "restore(-1) throws index");
    }

    // "Replaces the state by the one in a save slot", "Returns today then."
    static void promise30EverythingComesBack() {
        Trial t = busy();
        String saved = t.present();
        t.calls("save(0) = 2", "giveAll()", "extend(0, 9)", "set(0, 1)", "set(1, 2)", "set(2, 3)", "set(3, 4)", "hire(9)",
            "session(0, 40, 0, 1, 1)", "run(5)", "leave(0, 3)", "cancel(0)", "restore(0) = 2");
        Trial.same("what was saved", t.present(), saved);
    }

    static void promise30OfANewObject() {
        busy().calls("save(1) = 2").text("J").calls("load() = 0", "save(0) = 0", "hire(5)", "run(3)", "restore(0) = 0",
            "about = 0 0 0 0 0 0 0 0 0 0 0");
        Trial.run("save(0) = 0", "hire(1)", "set(0, 1)", "set(1, 2)", "set(2, 3)", "set(3, 4)", "session(0, 0, 0, 1, 1)",
            "giveAll()", "run(30)", "restore(0) = 0", "about = 0 0 0 0 0 0 0 0 0 0 0", "settings = 6 10 2 5");
    }

    static void promise30TwoSlots() {
        Trial.run("save(0)", "hire(1)", "run(7)", "save(1) = 7", "hire(2)", "restore(0) = 0", "about(0) = 0", "restore(1) = 7",
            "about(0) = 1", "save(0) = 7", "hire(3)", "restore(0) = 7", "about(0) = 1");
    }

    // "and forgets all remembered states"
    static void promise30ForgetsRememberedStates() {
        Trial.run("hire(1)", "save(0)", "hire(2)", "hire(3)", "undo() = 2", "restore(0) = 0", "undo() throws state", "hire(4)",
            "undo() = 0", "about(0) = 1", "undo() throws state");
    }

    /** Also if none is remembered, or as many as can be. */
    static void promise30ForgetsNoneAndFourteen() {
        Trial.run("save(0)", "restore(0) = 0", "undo() throws state");
        Trial.run("hire(1)", "save(0)").times(20, "run(1)").calls("restore(0) = 0", "undo() throws state", "about(2) = 0",
            "run(2)", "undo() = 0", "about(2) = 0");
    }

    // "The save slot keeps it."
    static void promise30TheSlotKeepsIt() {
        for (int slot = 0; slot < 2; slot++) {
            Trial t = busy().calls("save(" + slot + ") = 2");
            String saved = t.present();
            for (int times = 0; times < 3; times++) {
                t.calls("giveAll()", "extend(0, 9)", "run(5)", "set(3, " + times + ")", "restore(" + slot + ") = 2");
                Trial.same("what was saved", t.present(), saved);
            }
        }
    }

    static void promise30TheOtherSlotKeepsIts() {
        Trial.run("save(0)", "run(3)", "save(1)", "restore(0) = 0", "restore(1) = 3", "restore(1) = 3", "restore(0) = 0",
            "restore(0) = 0", "restore(1) = 3");
    }

    static void promise30UndoDoesNotTouchTheSlot() {
        Trial.run("hire(1)", "save(0) = 0", "restore(0) = 0", "set(3, 9)", "hire(2)", "undo() = 1", "undo() = 0",
            "restore(0) = 0", "about(0) = 1", "settings = 6 10 2 5");
    }

    // the text is not of the state
    static void promise30KeepsTheText() {
        Trial.run("append(74)", "save(0) = 0", "append(97)", "append(98)", "restore(0) = 0", "errorPosition() = 2",
            "clearText() = 3");
    }

    // "load and restore are not actions."
    static void promise30IsNoAction() {
        Trial.run("hire(1)", "save(0)", "restore(0) = 0", "restore(0) = 0", "undo() throws state");
    }
}
