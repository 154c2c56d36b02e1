/** Promises 2 to 5: the text. */
public final class TextTest {
    private static final String DIGITS = "0123456789";
    private static final String COMMANDS = "nsgad";

    public static void main(String[] args) {
        Trial.runAll(TextTest.class);
    }

    private static String signs(char sign, int n) {
        return String.valueOf(sign).repeat(n);
    }

    // ---- promise 2: append

    static void promise2AllowsTheCodes0To255() {
        Trial.run("append(0) = 1", "append(255) = 2", "append(1) = 3", "append(254) = 4", "append(127) = 5",
            "append(128) = 6", "clearText() = 6");
    }

    static void promise2RefusesOtherCodes() {
        Trial.run("append(-1) throws argument", "append(256) throws argument", "append(-2147483648) throws argument",
            "append(2147483647) throws argument", "clearText() = 0");
    }

    /** 330 and -182 would be the letter J as bytes. */
    static void promise2RefusesCodesThatWrapAround() {
        Trial.run("append(330) throws argument", "append(-182) throws argument", "append(65610) throws argument",
            "append(74) = 1", "errorPosition() = -1");
    }

    static void promise2HoldsAtMost120Characters() {
        Trial t = new Trial();
        for (int length = 1; length <= 120; length++) {
            t.calls("append(97) = " + length);
        }
        t.calls("append(97) throws state", "append(0) throws state", "append(255) throws state", "clearText() = 120");
    }

    static void promise2NamesTheArgumentAheadOfTheFullText() {
        new Trial().text(signs('a', 120)).calls("append(-1) throws argument", "append(256) throws argument");
    }

    static void promise2HasRoomAgainBehindClearText() {
        new Trial().text(signs('a', 120)).calls("append(97) throws state", "clearText() = 120", "append(74) = 1")
            .times(118, "append(97)").calls("append(97) = 120", "append(97) throws state", "errorPosition() = -1");
    }

    static void promise2IsNoAction() {
        Trial.run("hire(3)", "append(74) = 1", "undo() = 0", "undo() throws state", "clearText() = 1");
    }

    // ---- promise 3: clearText

    static void promise3OfAnEmptyText() {
        Trial.run("clearText() = 0", "clearText() = 0");
    }

    static void promise3OfOneCharacter() {
        Trial.run("append(74)", "clearText() = 1", "clearText() = 0", "errorPosition() = 0");
    }

    static void promise3OfAFullText() {
        new Trial().text("J" + signs('a', 119)).calls("clearText() = 120", "clearText() = 0", "load() throws state");
    }

    /** Nothing of the previous text stands behind a shorter one. */
    static void promise3LeavesNothing() {
        new Trial().text("Jn05").calls("clearText() = 4", "append(74) = 1", "append(110) = 2", "errorPosition() = 2",
            "append(48) = 3", "errorPosition() = 3", "load() throws state");
    }

    static void promise3ChangesNothingElse() {
        new Trial().calls("hire(3)", "session(0, 0, 0, 1, 1)", "save(0)", "run(1)").text("Jn05").calls("clearText() = 4",
            "about = 1 0 1 0 0 0 1 0 0 0 0", "undo() = 2", "about = 1 1 0 1 0 0 0 0 0 0 0", "restore(0) = 0");
    }

    // ---- promise 4: errorPosition

    private static void errorAt(String text, int due) {
        new Trial().text(text).calls("errorPosition() = " + due);
    }

    private static void isCalendar(String text) {
        errorAt(text, StenoRooms.NONE);
    }

    /**
     * Tries each of the 256 characters behind this beginning: one of 'last' makes it a calendar, behind one of
     * 'more' the text ends too soon, and any other one is the error.
     */
    private static void next(String beginning, String last, String more) {
        for (char c = 0; c < 256; c++) {
            int length = beginning.length();
            int due = last.indexOf(c) >= 0 ? StenoRooms.NONE : more.indexOf(c) >= 0 ? length + 1 : length;
            StenoRooms x = new StenoRooms();
            for (int i = 0; i < length; i++) {
                x.append(beginning.charAt(i));
            }
            x.append(c);
            Trial.same("errorPosition() of '" + beginning + "' and the code " + (int) c, x.errorPosition(), due);
        }
    }

    static void promise4OfAnEmptyText() {
        errorAt("", 0);
    }

    // "A calendar as a text is the letter J"
    static void promise4BeginsWithJ() {
        next("", "J", "");
        errorAt("j", 0);
        errorAt(" J", 0);
        errorAt("n05", 0);
        errorAt(signs('a', 120), 0);
    }

    // "and then any number of commands"
    static void promise4AnyNumberOfCommands() {
        isCalendar("J");
        isCalendar("Ja");
        isCalendar("Jaa");
        isCalendar("J" + signs('a', 119));
        isCalendar("Jad1ad9n01n20ag000ag155s0000011s4915169a");
    }

    static void promise4CommandBehindEachCommand() {
        next("J", "a", "nsgd");
        next("Ja", "a", "nsgd");
        next("Jn20", "a", "nsgd");
        next("Js4915169", "a", "nsgd");
        next("Jg155", "a", "nsgd");
        next("Jd9", "a", "nsgd");
    }

    // "n and two digits for a speed (01 to 20)"
    static void promise4Speed() {
        next("Jn", "", "012");
        next("Jn0", "123456789", "");
        next("Jn1", DIGITS, "");
        next("Jn2", "0", "");
    }

    // "s, a digit for a room (0 to 4)"
    static void promise4Room() {
        next("Js", "", "01234");
    }

    // "one for a day (0 to 9)"
    static void promise4Day() {
        next("Js0", "", DIGITS);
        next("Js4", "", DIGITS);
    }

    // "two for a first slot (00 to 15)"
    static void promise4FirstSlot() {
        next("Js49", "", "01");
        next("Js490", "", DIGITS);
        next("Js491", "", "012345");
    }

    // "two for slots (01 to 16)", whatever the first slot is
    static void promise4Slots() {
        next("Js4900", "", "01");
        next("Js4915", "", "01");
        next("Js49150", "", "123456789");
        next("Js49151", "", "0123456");
        isCalendar("Js4915161");
    }

    // "and one for talk (1 to 9)"
    static void promise4Talk() {
        next("Js490001", "123456789", "");
        next("Js491516", "123456789", "");
    }

    // "g, two digits for a session (00 to 15)"
    static void promise4SessionNumber() {
        next("Jg", "", "01");
        next("Jg0", "", DIGITS);
        next("Jg1", "", "012345");
    }

    // "and one for a stenographer (0 to 5)"
    static void promise4StenographerNumber() {
        next("Jg00", "012345", "");
        next("Jg15", "012345", "");
    }

    // "d and a digit (1 to 9)"
    static void promise4Days() {
        next("Jd", "123456789", "");
    }

    // "There are no blanks."
    static void promise4NoBlanks() {
        errorAt("J ", 1);
        errorAt("Ja ", 2);
        errorAt("Jn 5", 2);
        errorAt("Jn0 5", 3);
        errorAt("Jn05 n05", 4);
        errorAt("J\n", 1);
    }

    // "if the text ends too soon, it is the length of the text"
    static void promise4EndsTooSoon() {
        String[] words = {"n20", "s4915169", "g155", "d9"};
        for (String before : new String[] {"J", "Jan01d1"}) {
            for (String word : words) {
                for (int n = 1; n < word.length(); n++) {
                    String text = before + word.substring(0, n);
                    errorAt(text, text.length());
                }
                isCalendar(before + word);
            }
        }
    }

    // "The text is read from left to right."
    static void promise4TellsTheFirstError() {
        errorAt("JxJx", 1);
        errorAt("jx", 0);
        errorAt("Jn21n21", 3);
        errorAt("Jn05xn21", 4);
        errorAt("Jd0n", 2);
        errorAt("Jaas5a", 4);
    }

    static void promise4OfAFullText() {
        String full = "J" + signs('a', 118);
        errorAt(full + "n", 120);
        errorAt(full + "b", 119);
        errorAt(full.substring(1) + "n2", 0);
        errorAt(full.substring(0, 118) + "n2", 120);
        errorAt(full.substring(0, 118) + "n3", 119);
        isCalendar(full.substring(0, 118) + "d9");
        isCalendar(full.substring(0, 112) + "s4915169");
        errorAt(full.substring(0, 113) + "s491516", 120);
    }

    // ---- promise 5: load

    private static final String NEW = "about = 0 0 0 0 0 0 0 0 0 0 0";
    private static final String NEW_SETTINGS = "settings = 6 10 2 5";

    /** Everything differs from a new object, a state is remembered, both save slots are full. */
    private static Trial busy() {
        return new Trial().calls("set(0, 16)", "set(1, 15)", "set(2, 0)", "set(3, 9)", "hire(2)", "hire(9)", "save(0)",
            "session(0, 0, 0, 1, 1)").held(0, 1, 0, 0, 15, 9).held(1, 2, 0, 0, 5, 2).calls("run(1)", "save(1)",
            "session(3, 4, 0, 2, 2)", "leave(1, 7)", "about = 2 1 1 1 1 133 1 47 9 1 12", "settings = 16 15 0 9");
    }

    // "IllegalStateException if the text is not a calendar"
    static void promise5RefusesAnEmptyText() {
        busy().calls("load() throws state");
        Trial.run("load() throws state");
    }

    static void promise5RefusesWhatIsNotAllowed() {
        busy().text("x").calls("load() throws state");
        busy().text("Jn05x").calls("load() throws state");
        busy().text("Jn05n21").calls("load() throws state");
    }

    static void promise5RefusesWhatEndsTooSoon() {
        busy().text("Jn05n").calls("load() throws state");
        busy().text("Jn05g15").calls("load() throws state");
        busy().text("J" + signs('a', 118) + "d").calls("load() throws state");
    }

    // "Makes everything as in a new object"
    static void promise5OfNoCommands() {
        busy().text("J").calls("load() = 0", NEW, NEW_SETTINGS);
        new Trial().text("J").calls("load() = 0", NEW, NEW_SETTINGS);
    }

    static void promise5NobodyIsOnLeaveThen() {
        busy().text("Jn05n06n07").calls("load() = 0", "stenographer(0) = 5 0 0 0 0 0 0", "stenographer(1) = 6 0 0 0 0 0 0",
            "stenographer(2) = 7 0 0 0 0 0 0");
    }

    // "and then does the commands of the text"
    static void promise5DoesEachCommand() {
        Trial loaded = new Trial().text("Jn05n20s2304103s0100062s0015015g001as1210041d2g001").calls("load() = 0");
        Trial called = Trial.run("hire(5)", "hire(20)", "session(2, 3, 4, 10, 3)", "session(0, 1, 0, 6, 2)",
            "session(0, 0, 15, 1, 5)", "give(0, 1)", "giveAll()", "session(1, 2, 10, 4, 1)", "run(2)", "give(0, 1)");
        loaded.calls("clearText()");
        Trial.same("what has been loaded", loaded.present(), called.present());
        called.calls("sessions = 1 2 10 4 1 1, 2 3 4 10 3 -1", "about = 2 2 2 1 0 0 0 14 0 2 17");
    }

    static void promise5DoesTheEndsOfEachNumber() {
        new Trial().text("Jn01n20s0000169s4915011g005").calls("load() = 1", "stenographer(0) = 1 0 0 0 0 0 0",
            "stenographer(1) = 20 0 0 0 0 0 0", "sessions = 0 0 0 16 9 -1, 4 9 15 1 1 -1");
        new Trial().text("Jd9d1d5").calls("load() = 0", "about(2) = 15");
    }

    static void promise5DoesAsManyCommandsAsATextCanHave() {
        new Trial().text("J" + signs('a', 119)).calls("load() = 0", NEW);
        new Trial().text("J" + signs('a', 117) + "d9").calls("load() = 0", "about(2) = 9");
        new Trial().text("J" + "d1".repeat(59)).calls("load() = 0", "about(2) = 59");
    }

    static void promise5DoesACommandThatFillsTheText() {
        new Trial().text("J" + signs('a', 111) + "s4915019").calls("load() = 0", "sessions = 4 9 15 1 9 -1");
    }

    // "Commands that would throw an exception are left out." "Returns the number of commands that are left out."
    static void promise5LeavesOutTheSeventhStenographer() {
        new Trial().text("Jn01n02n03n04n05n06").calls("load() = 0", "about(0) = 6");
        new Trial().text("Jn01n02n03n04n05n06n07n08").calls("load() = 2", "about(0) = 6", "stenographer(5, 0) = 6");
    }

    static void promise5LeavesOutSessionsBeyondTheDay() {
        new Trial().text("Js0015011s1015021s2014021s3014031s4000161").calls("load() = 2",
            "sessions = 4 0 0 16 1 -1, 2 0 14 2 1 -1, 0 0 15 1 1 -1");
    }

    static void promise5LeavesOutSessionsOfDaysGoneBy() {
        new Trial().text("Jd3s0200011s0300011").calls("load() = 1", "sessions = 0 3 0 1 1 -1");
        new Trial().text("Jd9s0900011d1s0900011").calls("load() = 1", "about = 0 0 10 0 0 0 1 0 0 0 0");
    }

    static void promise5LeavesOutSessionsInTakenSlots() {
        new Trial().text("Js0004041s0000051s0000041s0007011s0008011s1004041").calls("load() = 2",
            "sessions = 0 0 0 4 1 -1, 0 0 4 4 1 -1, 1 0 4 4 1 -1, 0 0 8 1 1 -1");
    }

    static void promise5LeavesOutWhatDoesNotExist() {
        new Trial().text("Jg000n05g000s0000011g001g010g000n06g001").calls("load() = 4", "sessions = 0 0 0 1 1 1");
    }

    static void promise5LeavesOutWhatCannotBeGiven() {
        // Of these, reason 2, reason 3 and reason 4 speak against one each.
        new Trial().text("Jn04s0000051g000s1004011g010s1005021g020s1008061g030").calls("load() = 3",
            "sessions = 0 0 0 5 1 0, 1 0 4 1 1 -1, 1 0 5 2 1 -1, 1 0 8 6 1 -1");
    }

    static void promise5LeavesOutAll() {
        new Trial().text("J" + "g000".repeat(29)).calls("load() = 29", NEW);
        new Trial().text("J" + "g000".repeat(29) + "aaa").calls("load() = 29", NEW);
    }

    // "Behind it no state is remembered"
    static void promise5RemembersNothing() {
        busy().text("Jn09").calls("load() = 0", "undo() throws state", "hire(4) = 1", "undo() = 0", "undo() throws state",
            "about = 1 0 0 0 0 0 0 0 0 0 0");
    }

    // "and both save slots are empty"
    static void promise5EmptiesBothSaveSlots() {
        busy().text("Jn09").calls("load() = 0", "restore(0) throws state", "restore(1) throws state", "hire(4)",
            "save(1) = 0", "restore(0) throws state", "restore(1) = 0", "about(0) = 2");
    }

    // "Keeps the text."
    static void promise5KeepsTheText() {
        new Trial().text("Jn09s0000011a").calls("load() = 0", "run(9)", "load() = 0", "sessions = 0 0 0 1 1 0",
            "about(2) = 0", "append(110) = 14", "errorPosition() = 14", "clearText() = 14");
    }

    // "load and restore are not actions."
    static void promise5IsNoAction() {
        new Trial().text("J").calls("load() = 0", "undo() throws state");
    }
}
