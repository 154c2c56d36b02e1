/** Promises 2 to 5: the text. */
public final class TextTest {
    public static void main(String[] args) {
        promise2Append();
        promise3ClearText();
        promise4Beginnings();
        promise4Numbers();
        promise4Sessions();
        promise4LongTexts();
        promise5NotACalendar();
        promise5Commands();
        promise5LeavesOut();
        promise5Forgets();
        promise5KeepsTheText();
        Check.end("TextTest");
    }

    private static void promise2Append() {
        StenoRooms x = new StenoRooms();
        Check.argument("append(-1)", x, () -> x.append(-1));
        Check.argument("append(256)", x, () -> x.append(256));
        Check.argument("append(least)", x, () -> x.append(Integer.MIN_VALUE));
        Check.is("append(0)", x.append(0), 1);
        Check.is("append(255)", x.append(255), 2);
        for (int i = 3; i <= 120; i++) {
            Check.is("append('a')", x.append('a'), i);
        }
        Check.notNow("append to 120", x, () -> x.append('a'));
        Check.argument("append(256) to 120", x, () -> x.append(256));
        Check.is("length behind what was refused", x.clearText(), 120);
        Check.is("no action", Check.undoAll(x), 0);
    }

    private static void promise3ClearText() {
        StenoRooms x = new StenoRooms();
        Check.is("clearText() of nothing", x.clearText(), 0);
        Check.write(x, "Jn05");
        Check.is("clearText()", x.clearText(), 4);
        Check.is("clearText() again", x.clearText(), 0);
        Check.is("errorPosition() behind it", x.errorPosition(), 0);
        Check.is("append behind it", x.append('J'), 1);
        Check.is("the new text", x.errorPosition(), StenoRooms.NONE);
    }

    private static void errorAt(String text, int due) {
        StenoRooms x = new StenoRooms();
        Check.write(x, text);
        Check.tells("errorPosition() of '" + text + "'", x, due, x::errorPosition);
        Check.is("length of '" + text + "' behind errorPosition()", x.clearText(), text.length());
    }

    private static void isCalendar(String text) {
        errorAt(text, StenoRooms.NONE);
    }

    private static void promise4Beginnings() {
        errorAt("", 0);
        errorAt("j", 0);
        errorAt("n05", 0);
        errorAt(" J", 0);
        errorAt("\u00ff", 0);
        isCalendar("J");
        isCalendar("Ja");
        isCalendar("Jaaa");
        errorAt("JJ", 1);
        errorAt("J ", 1);
        errorAt("Jx", 1);
        errorAt("JA", 1);
        errorAt("J5", 1);
        errorAt("J\u0000", 1);
        errorAt("Ja ", 2);
        errorAt("Jaa1a", 3);
    }

    private static void promise4Numbers() {
        errorAt("Jn", 2);
        errorAt("Jna", 2);
        errorAt("Jn3", 2);
        errorAt("Jn/", 2);
        errorAt("Jn:", 2);
        errorAt("Jn0", 3);
        errorAt("Jn00", 3);
        errorAt("Jn21", 3);
        errorAt("Jn2a", 3);
        errorAt("Jn1:", 3);
        errorAt("Jn1/", 3);
        errorAt("Jn051", 4);
        isCalendar("Jn01");
        isCalendar("Jn09");
        isCalendar("Jn10");
        isCalendar("Jn19");
        isCalendar("Jn20");
        errorAt("Jg", 2);
        errorAt("Jg2", 2);
        errorAt("Jg1", 3);
        errorAt("Jg16", 3);
        errorAt("Jg15", 4);
        errorAt("Jg156", 4);
        isCalendar("Jg155");
        isCalendar("Jg000");
        isCalendar("Jg090");
        errorAt("Jd", 2);
        errorAt("Jd0", 2);
        isCalendar("Jd1");
        isCalendar("Jd9");
        errorAt("Jd10", 3);
    }

    private static void promise4Sessions() {
        errorAt("Js", 2);
        errorAt("Js5", 2);
        errorAt("Js4", 3);
        errorAt("Js4x", 3);
        errorAt("Js49", 4);
        errorAt("Js492", 4);
        errorAt("Js491", 5);
        errorAt("Js4916", 5);
        errorAt("Js4915", 6);
        errorAt("Js49152", 6);
        errorAt("Js49151", 7);
        errorAt("Js491517", 7);
        errorAt("Js491500", 7);
        errorAt("Js491516", 8);
        errorAt("Js4915160", 8);
        errorAt("Js491516a", 8);
        isCalendar("Js4915169");
        isCalendar("Js0000011");
        isCalendar("Js2509105");
        errorAt("Js00000111", 9);
    }

    private static void promise4LongTexts() {
        StringBuilder full = new StringBuilder("J");
        while (full.length() < 120) {
            full.append('a');
        }
        isCalendar(full.toString());
        full.setCharAt(119, 'n');
        errorAt(full.toString(), 120);
        full.setCharAt(119, 'b');
        errorAt(full.toString(), 119);
        full.setCharAt(118, 'n');
        full.setCharAt(119, '2');
        errorAt(full.toString(), 120);
    }

    private static void promise5NotACalendar() {
        StenoRooms x = new StenoRooms();
        Check.notNow("load() of nothing", x, x::load);
        x.hire(7);
        x.session(1, 2, 3, 4, 5);
        x.save(1);
        Check.write(x, "Jn05n");
        Check.notNow("load() of what ends too soon", x, x::load);
        Check.write(x, "Jn05n21");
        Check.notNow("load() of a wrong number", x, x::load);
        Check.is("the save slot", x.restore(1), 0);
        Check.is("the sessions", x.about(1), 1);
        x.giveAll();
        Check.notNow("load() with a state remembered", x, x::load);
        Check.is("states remembered", Check.undoAll(x), 1);
    }

    /** Each command does what its method does. */
    private static void promise5Commands() {
        StenoRooms x = Check.loaded("Jn05n20s2304103s0100062s0015015g001as1210041d2g001");
        StenoRooms y = new StenoRooms();
        y.hire(5);
        y.hire(20);
        y.session(2, 3, 4, 10, 3);
        y.session(0, 1, 0, 6, 2);
        y.session(0, 0, 15, 1, 5);
        y.give(0, 1);
        y.giveAll();
        y.session(1, 2, 10, 4, 1);
        y.run(2);
        y.give(0, 1);
        Check.same("what has been loaded", withoutError(x), withoutError(y));
        Check.same("sessions", Check.sessions(x), "1 2 10 4 1 1, 2 3 4 10 3 -1");
    }

    private static String withoutError(StenoRooms x) {
        String state = Check.state(x);
        return state.substring(0, state.lastIndexOf(" error "));
    }

    private static void promise5LeavesOut() {
        StenoRooms x = new StenoRooms();
        Check.write(x, "Jn01n02n03n04n05n06n07");
        Check.is("load() of 7 stenographers", x.load(), 1);
        Check.is("stenographers", x.about(0), 6);
        Check.write(x, "Js0000013s0000024s1015019s1015029g000g020d1s2000011");
        Check.is("load() with what throws", x.load(), 5);
        Check.same("what was not left out", Check.about(x, 0, 6), "0 0 1 0 0 0 2");
        Check.write(x, "Jn04s0300029g000s1301029g010g011g000");
        Check.is("load() with a stenographer who has another session", x.load(), 2);
        Check.same("sessions", Check.sessions(x), "0 3 0 2 9 0, 1 3 1 2 9 -1");
    }

    private static void promise5Forgets() {
        StenoRooms x = new StenoRooms();
        x.set(0, 3);
        x.set(1, 4);
        x.set(2, 7);
        x.set(3, 8);
        x.hire(9);
        x.leave(0, 5);
        x.session(0, 0, 0, 1, 1);
        x.session(0, 3, 0, 1, 1);
        x.run(3);
        x.leave(0, 0);
        x.set(2, 0);
        x.set(0, 16);
        x.set(1, 16);
        x.session(1, 3, 1, 14, 9);
        x.session(2, 4, 0, 1, 1);
        x.giveAll();
        x.run(1);
        Check.same("before it", Check.about(x, 0, 10), "1 1 4 0 1 118 1 37 8 1 9");
        x.save(0);
        x.save(1);
        Check.write(x, "Jn09");
        Check.is("load()", x.load(), 0);
        StenoRooms y = new StenoRooms();
        y.hire(9);
        Check.same("what was loaded", withoutError(x), withoutError(y));
        Check.notNow("undo() behind load()", x, x::undo);
        Check.notNow("restore(0) behind load()", x, () -> x.restore(0));
        Check.notNow("restore(1) behind load()", x, () -> x.restore(1));
        x.hire(4);
        Check.is("undo() behind load() and an action", x.undo(), 0);
        Check.is("stenographers", x.about(0), 1);
    }

    private static void promise5KeepsTheText() {
        StenoRooms x = Check.loaded("Jn09s0000011a");
        String first = Check.state(x);
        x.run(9);
        Check.is("load() again", x.load(), 0);
        Check.same("loaded again", Check.state(x), first);
        Check.is("length of the text", x.clearText(), 13);
    }
}
