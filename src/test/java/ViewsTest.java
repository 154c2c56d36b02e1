/** Promise 1 and promises 6 to 10: a new object, and what there is. */
public final class ViewsTest {
    public static void main(String[] args) {
        promise1NewObject();
        promise1NewObjectsAreApart();
        promise6About();
        promise7Stenographer();
        promise8SessionOf();
        promise9Transcript();
        promise10Setting();
        Check.end("ViewsTest");
    }

    private static void promise1NewObject() {
        StenoRooms x = new StenoRooms();
        Check.is("NONE", StenoRooms.NONE, -1);
        Check.same("a new object", Check.state(x), "about 0 0 0 0 0 0 0 0 0 0 0 settings 6 10 2 5 error 0");
        Check.notNow("undo()", x, x::undo);
        Check.notNow("restore(0)", x, () -> x.restore(0));
        Check.notNow("restore(1)", x, () -> x.restore(1));
        Check.is("clearText()", x.clearText(), 0);
        Check.is("giveAll()", x.giveAll(), 0);
        Check.is("run(30)", x.run(30), 0);
        Check.is("today", x.about(2), 30);
    }

    private static void promise1NewObjectsAreApart() {
        StenoRooms x = new StenoRooms();
        StenoRooms y = new StenoRooms();
        x.hire(3);
        x.session(0, 0, 0, 1, 1);
        x.set(0, 1);
        x.append('J');
        x.save(0);
        Check.same("another object", Check.state(y), "about 0 0 0 0 0 0 0 0 0 0 0 settings 6 10 2 5 error 0");
        Check.notNow("restore(0) of another object", y, () -> y.restore(0));
    }

    /** Day 0: stenographer 0 leaves 14 of 54 pages, 1 types 6; day 1: one session is lost, 0 types 14. */
    private static StenoRooms twoAtWork() {
        StenoRooms x = new StenoRooms();
        x.hire(4);
        x.hire(1);
        x.set(2, 0);
        Check.held(x, 0, 0, 0, 0, 6, 9);
        Check.held(x, 1, 1, 0, 6, 3, 2);
        x.session(2, 1, 0, 2, 3);
        return x;
    }

    private static void promise6About() {
        StenoRooms x = twoAtWork();
        Check.same("day 0", Check.about(x, 0, 10), "2 3 0 1 0 0 0 0 0 0 0");
        Check.is("run(1)", x.run(1), 5);
        Check.same("day 1", Check.about(x, 0, 10), "2 1 1 1 1 14 0 18 5 1 46");
        Check.is("run(1)", x.run(1), 0);
        Check.same("day 2", Check.about(x, 0, 10), "2 0 2 0 0 0 1 18 5 2 60");
        Check.argument("about(-1)", x, () -> x.about(-1));
        Check.argument("about(11)", x, () -> x.about(11));
        Check.argument("about(greatest)", x, () -> x.about(Integer.MAX_VALUE));
    }

    private static void promise7Stenographer() {
        StenoRooms x = twoAtWork();
        x.leave(1, 0);
        Check.held(x, 0, 3, 2, 0, 1, 1);
        Check.held(x, 0, 3, 0, 10, 2, 9);
        stenographerIs(x, 0, "4 0 3 0 0 8 0");
        stenographerIs(x, 1, "1 0 1 0 0 3 0");
        x.run(1);
        x.leave(1, 3);
        stenographerIs(x, 0, "4 0 1 2 40 0 16");
        stenographerIs(x, 1, "1 4 0 0 0 0 6");
        Check.index("stenographer(-1, 0)", x, () -> x.stenographer(-1, 0));
        Check.index("stenographer(2, 0)", x, () -> x.stenographer(2, 0));
        Check.index("stenographer(2, 7)", x, () -> x.stenographer(2, 7));
        Check.index("stenographer(6, 0)", x, () -> x.stenographer(6, 0));
        Check.argument("stenographer(0, -1)", x, () -> x.stenographer(0, -1));
        Check.argument("stenographer(0, 7)", x, () -> x.stenographer(0, 7));
    }

    private static void stenographerIs(StenoRooms x, int p, String due) {
        StringBuilder s = new StringBuilder();
        for (int what = 0; what <= 6; what++) {
            s.append(what == 0 ? "" : " ").append(x.stenographer(p, what));
        }
        Check.same("stenographer " + p, s.toString(), due);
    }

    private static void promise8SessionOf() {
        StenoRooms x = new StenoRooms();
        Check.index("sessionOf(0, 0) of none", x, () -> x.sessionOf(0, 0));
        x.hire(4);
        x.session(4, 999, 15, 1, 9);
        x.session(3, 7, 2, 5, 1);
        x.give(1, 0);
        Check.same("session 0", Check.session(x, 0), "3 7 2 5 1 -1");
        Check.same("session 1", Check.session(x, 1), "4 999 15 1 9 0");
        Check.index("sessionOf(-1, 0)", x, () -> x.sessionOf(-1, 0));
        Check.index("sessionOf(2, 0)", x, () -> x.sessionOf(2, 0));
        Check.index("sessionOf(2, 6)", x, () -> x.sessionOf(2, 6));
        Check.index("sessionOf(16, 0)", x, () -> x.sessionOf(16, 0));
        Check.argument("sessionOf(0, -1)", x, () -> x.sessionOf(0, -1));
        Check.argument("sessionOf(0, 6)", x, () -> x.sessionOf(0, 6));
    }

    private static void promise9Transcript() {
        StenoRooms x = Check.staff(1, 2);
        Check.index("transcript(0, 0, 0) of an empty desk", x, () -> x.transcript(0, 0, 0));
        Check.held(x, 0, 0, 0, 0, 8, 9);
        Check.held(x, 1, 1, 0, 0, 8, 8);
        Check.held(x, 0, 2, 0, 8, 8, 7);
        x.run(1);
        Check.same("desk 0", Check.desk(x, 0), "72:2 56:2");
        Check.same("desk 1", Check.desk(x, 1), "48:2");
        Check.index("transcript(-1, 0, 0)", x, () -> x.transcript(-1, 0, 0));
        Check.index("transcript(2, 0, 0)", x, () -> x.transcript(2, 0, 0));
        Check.index("transcript(0, -1, 0)", x, () -> x.transcript(0, -1, 0));
        Check.index("transcript(0, 2, 0)", x, () -> x.transcript(0, 2, 0));
        Check.index("transcript(1, 1, 0)", x, () -> x.transcript(1, 1, 0));
        Check.index("transcript(1, 1, 2)", x, () -> x.transcript(1, 1, 2));
        Check.index("transcript(2, 0, 2)", x, () -> x.transcript(2, 0, 2));
        Check.argument("transcript(0, 0, -1)", x, () -> x.transcript(0, 0, -1));
        Check.argument("transcript(0, 1, 2)", x, () -> x.transcript(0, 1, 2));
    }

    private static void promise10Setting() {
        StenoRooms x = new StenoRooms();
        x.set(0, 1);
        x.set(1, 16);
        x.set(2, 30);
        x.set(3, 99);
        Check.is("setting(0)", x.setting(0), 1);
        Check.is("setting(1)", x.setting(1), 16);
        Check.is("setting(2)", x.setting(2), 30);
        Check.is("setting(3)", x.setting(3), 99);
        Check.argument("setting(-1)", x, () -> x.setting(-1));
        Check.argument("setting(4)", x, () -> x.setting(4));
    }
}
