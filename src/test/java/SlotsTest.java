/** Promises 29 and 30: the save slots. */
public final class SlotsTest {
    public static void main(String[] args) {
        promise29Save();
        promise30Restore();
        promise30TwoSlots();
        promise30Forgets();
        promise30Refusals();
        Check.end("SlotsTest");
    }

    private static StenoRooms busy() {
        StenoRooms x = Check.staff(1, 3);
        Check.held(x, 0, 0, 0, 0, 9, 9);
        Check.held(x, 1, 1, 0, 4, 3, 8);
        Check.held(x, 0, 2, 2, 1, 5, 7);
        x.session(3, 1, 2, 3, 4);
        x.run(2);
        x.session(4, 5, 2, 3, 4);
        x.leave(1, 6);
        return x;
    }

    private static void promise29Save() {
        StenoRooms x = new StenoRooms();
        Check.tells("save(0)", x, 0, () -> x.save(0));
        StenoRooms y = busy();
        Check.tells("save(1)", y, 2, () -> y.save(1));
        Check.index("save(-1)", y, () -> y.save(-1));
        Check.index("save(2)", y, () -> y.save(2));
        Check.is("states remembered", Check.undoAll(y), 14);
        y.run(30);
        Check.tells("save(1) over what was saved", y, y.about(2), () -> y.save(1));
    }

    private static void promise30Restore() {
        StenoRooms x = busy();
        String saved = Check.state(x);
        x.save(0);
        for (int times = 0; times < 3; times++) {
            x.giveAll();
            x.extend(0, 9);
            x.set(0, 1 + times);
            x.set(1, 1 + times);
            x.set(2, times);
            x.set(3, times);
            x.hire(9);
            x.session(0, 40, 0, 1, 1);
            x.run(5);
            x.leave(0, 3);
            x.cancel(0);
            Check.is("restore(0)", x.restore(0), 2);
            Check.same("what was saved", Check.state(x), saved);
        }
        Check.write(x, "J");
        x.hire(5);
        Check.is("restore(0)", x.restore(0), 2);
        Check.is("the text stays", x.clearText(), 1);
    }

    private static void promise30TwoSlots() {
        StenoRooms x = new StenoRooms();
        x.save(0);
        x.hire(1);
        x.run(7);
        x.save(1);
        x.hire(2);
        Check.is("restore(0)", x.restore(0), 0);
        Check.is("stenographers", x.about(0), 0);
        Check.is("restore(1)", x.restore(1), 7);
        Check.is("stenographers", x.about(0), 1);
        Check.is("save(0) over what was saved", x.save(0), 7);
        x.hire(3);
        Check.is("restore(0)", x.restore(0), 7);
        Check.is("stenographers", x.about(0), 1);
    }

    private static void promise30Forgets() {
        StenoRooms x = new StenoRooms();
        x.hire(1);
        x.save(0);
        x.hire(2);
        x.hire(3);
        x.undo();
        x.restore(0);
        Check.notNow("undo() behind restore()", x, x::undo);
        x.hire(4);
        Check.is("undo() behind restore() and an action", x.undo(), 0);
        Check.is("stenographers", x.about(0), 1);
        x.set(3, 9);
        x.undo();
        Check.is("undo() does not touch the slot", x.restore(0), 0);
    }

    private static void promise30Refusals() {
        StenoRooms x = new StenoRooms();
        x.hire(1);
        x.save(1);
        x.set(3, 9);
        Check.index("restore(-1)", x, () -> x.restore(-1));
        Check.index("restore(2)", x, () -> x.restore(2));
        Check.notNow("restore(0) of nothing", x, () -> x.restore(0));
        Check.is("states remembered", Check.undoAll(x), 2);
        Check.write(x, "J");
        x.load();
        Check.notNow("restore(1) of what was saved before load()", x, () -> x.restore(1));
        x.save(0);
        Check.is("restore(0) of what was saved behind load()", x.restore(0), 0);
        Check.is("stenographers", x.about(0), 0);
    }
}
