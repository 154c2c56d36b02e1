import java.math.BigInteger;

/** Promises 27 and 28: scripts and simulations. That they change nothing is seen at each of them by Trial. */
public final class ScriptsTest {
    public static void main(String[] args) {
        Trial.runAll(ScriptsTest.class);
    }

    // ---- promise 27: runScript

    private static void script(Trial t, int n, long script, int due) {
        t.calls("runScript(" + n + ", " + script + ") = " + due);
    }

    private static void succeed(Trial t, long... groups) {
        for (long group : groups) {
            script(t, 1, group, StenoRooms.NONE);
        }
    }

    private static void fail(Trial t, long... groups) {
        for (long group : groups) {
            script(t, 1, group, 0);
        }
    }

    // "1 r f f n: session(r, today, ff, n, 3)"
    static void promise27SessionsAtTheEnds() {
        Trial t = new Trial();
        succeed(t, 10001, 14001, 10151, 12079, 10009, 14151);
        fail(t, 15001, 19001, 10161, 10991, 10152, 10089, 10000, 10150);
    }

    static void promise27SessionsInTakenSlots() {
        Trial t = Trial.run("session(1, 0, 4, 4, 1)");
        fail(t, 11041, 11071, 11032, 11009);
        succeed(t, 11081, 11031, 11004, 12071);
        t.calls("run(1)");
        succeed(t, 11071);
    }

    static void promise27SessionsOfToday() {
        Trial t = Trial.run("run(9)", "session(1, 0, 0, 1, 1) throws argument", "session(1, 10, 0, 16, 1)");
        succeed(t, 11001);
        script(t, 2, 1100160001L, -1);
        script(t, 3, 110016000170000L, 2);
        t.times(33, "run(30)").calls("about(2) = 999");
        succeed(t, 11001);
        t.calls("run(1)");
        fail(t, 11001);
    }

    static void promise27SeventeenthSession() {
        Trial t = new Trial();
        for (int i = 0; i < 15; i++) {
            t.calls("session(0, 0, " + i + ", 1, 1)");
        }
        script(t, 2, 1100112001L, 1);
        succeed(t, 11001);
        t.calls("session(0, 0, 15, 1, 1)");
        fail(t, 11001);
    }

    // "2 k k p 0: give(kk, p)"
    static void promise27Gives() {
        Trial t = Trial.run("hire(1)", "hire(1)");
        for (int i = 0; i < 12; i++) {
            t.calls("session(0, " + i + ", 0, 1, 1)");
        }
        t.calls("session(1, 3, 0, 1, 1)");
        succeed(t, 20000, 20010, 21110, 21210);
        fail(t, 21300, 29900, 20020, 20090);
        t.calls("give(3, 0)");
        fail(t, 20400);
        succeed(t, 20410, 20300);
        script(t, 2, 2111091110L, -1);
        script(t, 2, 2111091100L, 1);
    }

    // "so does any other group (also one with another digit where a 0 is written)"
    static void promise27GivesWithAnotherDigit() {
        Trial t = Trial.run("hire(1)", "session(0, 0, 0, 1, 1)");
        succeed(t, 20000);
        fail(t, 20001, 20009);
    }

    // "3 0 0 0 0: giveAll()"
    static void promise27GivesAll() {
        Trial t = new Trial();
        succeed(t, 30000);
        fail(t, 31000, 30100, 30010, 30001, 39999);
        t.calls("hire(1)", "session(0, 0, 0, 1, 1)");
        fail(t, 70000);
        script(t, 2, 3000070000L, -1);
    }

    // "4 k k n n: extend(kk, nn)"
    static void promise27Extends() {
        Trial t = new Trial();
        for (int i = 0; i < 11; i++) {
            t.calls("session(0, " + i + ", 0, 1, 1)");
        }
        t.calls("session(0, 10, 1, 15, 1)");
        succeed(t, 40001, 40016, 41016, 41101, 41116);
        fail(t, 41201, 49901, 40000, 40017, 40099);
        // The session 11 begins at the end of the session 10, or is gone.
        script(t, 2, 4101441101L, -1);
        script(t, 2, 4101541101L, 1);
    }

    // "5 p 0 d d: leave(p, dd)"
    static void promise27Leaves() {
        Trial t = new Trial();
        fail(t, 50001);
        t.calls("hire(1)", "session(0, 29, 0, 1, 1)", "session(0, 30, 0, 1, 1)");
        succeed(t, 50000, 50001, 50030);
        fail(t, 50031, 50099, 51001, 59001);
        t.calls("giveAll()");
        script(t, 2, 5003070000L, 1);
        script(t, 2, 5003070001L, -1);
        script(t, 2, 5002970000L, -1);
        t.calls("hire(1)");
        succeed(t, 51012);
    }

    static void promise27LeavesWithAnotherDigit() {
        Trial t = Trial.run("hire(1)");
        fail(t, 50101, 50901);
    }

    // "6 0 0 n n: run(nn)"
    static void promise27Runs() {
        Trial t = new Trial();
        succeed(t, 60001, 60030);
        fail(t, 60000, 60031, 60099);
        t.calls("session(0, 12, 0, 1, 1)");
        script(t, 2, 6001370000L, -1);
        script(t, 2, 6001270000L, 1);
    }

    static void promise27RunsWithAnotherDigit() {
        fail(new Trial(), 61001, 60101, 69001, 60901);
    }

    // "7 0 0 n n: succeeds if at most nn sessions are without a stenographer"
    static void promise27AtMostSoManySessions() {
        Trial t = Trial.run("hire(1)");
        succeed(t, 70000);
        for (int i = 0; i < 12; i++) {
            t.calls("session(0, 0, " + i + ", 1, 1)");
        }
        t.calls("give(0, 0)");
        succeed(t, 70011, 70012, 70099);
        fail(t, 70010, 70000);
    }

    static void promise27AtMostSoManySessionsWithAnotherDigit() {
        fail(new Trial(), 71000, 70100, 71099, 70199);
    }

    /** Eleven sessions of the stenographer 1 and one of 0, today. */
    private static Trial twelveHeld() {
        Trial t = Trial.staff(1, 1);
        for (int i = 0; i < 12; i++) {
            t.held(i == 5 ? 0 : 1, 0, 0, i, i == 11 ? 5 : 1, 9);
        }
        return t;
    }

    // "8 p n n 0: succeeds if at most nn transcripts are on the desk of p"
    static void promise27AtMostSoManyTranscripts() {
        Trial t = twelveHeld();
        succeed(t, 80000, 81000);
        t.calls("run(1)", "stenographer(1, 3) = 11", "stenographer(0, 3) = 0");
        succeed(t, 81110, 81120, 81990, 80000);
        fail(t, 81100, 81000);
        script(t, 3, 600018100080000L, 1);
    }

    static void promise27AtMostSoManyTranscriptsWithAnotherDigit() {
        Trial t = Trial.run("hire(1)");
        succeed(t, 80990);
        fail(t, 80991, 80999);
    }

    // "9 k k p 0: succeeds if the session kk has the stenographer p"
    static void promise27WhoHasIt() {
        Trial t = twelveHeld();
        succeed(t, 90500, 90410, 91010, 91110);
        fail(t, 90510, 90400, 91100);
        t.calls("give(5, -1)");
        fail(t, 90500, 90510, 90590);
    }

    static void promise27WhoHasItWithAnotherDigit() {
        Trial t = twelveHeld();
        fail(t, 90501, 90509);
    }

    // "commands with stenographers, sessions or rooms that do not exist fail"
    static void promise27WhatDoesNotExist() {
        Trial t = new Trial();
        fail(t, 20000, 40001, 50000, 80990, 90000, 15001);
        t.calls("hire(1)", "session(0, 0, 0, 1, 1)");
        fail(t, 20100, 20010, 40101, 51000, 81990, 86990, 89990, 90100, 90010, 90090, 91600, 41601, 21600);
        succeed(t, 20000, 40001, 50000, 80990);
        new Trial().times(6, "hire(1)").calls("runScript(1, 86990) = 0", "runScript(1, 85990) = -1",
            "runScript(1, 56001) = 0", "runScript(1, 55001) = -1");
    }

    // "so does any other group"
    static void promise27OtherGroups() {
        Trial t = Trial.run("hire(1)", "session(0, 0, 0, 1, 1)");
        fail(t, 0, 1, 3000, 9999);
    }

    // "the first command is the highest group of the number"
    static void promise27TheHighestGroupFirst() {
        Trial t = Trial.run("hire(1)", "session(0, 0, 0, 1, 1)");
        script(t, 2, 3000070000L, -1);
        script(t, 2, 7000030000L, 0);
        script(t, 3, 300007000090000L, -1);
        script(t, 3, 700003000090000L, 0);
        script(t, 3, 300007000090010L, 2);
    }

    // "(with zeros before it, if it has fewer digits)"
    static void promise27ZerosBeforeIt() {
        Trial t = new Trial();
        script(t, 1, 0, 0);
        script(t, 2, 30000, 0);
        script(t, 2, 0, 0);
        script(t, 3, 30000, 0);
        script(t, 3, 3000030000L, 0);
        script(t, 3, 0, 0);
    }

    // "Returns the index, from 0, of the first command that fails; NONE if all succeed."
    static void promise27TheFirstThatFails() {
        Trial t = new Trial();
        script(t, 1, 99999, 0);
        script(t, 2, 9999930000L, 0);
        script(t, 2, 3000099999L, 1);
        script(t, 3, 300003000099999L, 2);
        script(t, 3, 300009999999999L, 1);
        script(t, 3, 300003000030000L, -1);
        script(t, 3, 999999999999999L, 0);
    }

    // "Runs a script on a copy of the state": each command finds what those before it did
    static void promise27OnACopy() {
        Trial t = Trial.run("hire(1)", "session(1, 0, 0, 6, 1)", "session(1, 0, 6, 6, 1)", "give(0, 0)");
        script(t, 3, 600016000160001L, -1);
        script(t, 3, 101312021080000L, 1);
        script(t, 3, 101312020070001L, -1);
        script(t, 3, 400069010070002L, 1);
        script(t, 3, 500017000270001L, 2);
        script(t, 3, 500015000020000L, -1);
        script(t, 3, 600018001070000L, -1);
        script(t, 3, 600018001040001L, 2);
        t.calls("sessions = 1 0 0 6 1 0, 1 0 6 6 1 -1", "about(2) = 0");
    }

    // "n: number of commands, 1 to 3"
    static void promise27RefusesOtherNumbersOfCommands() {
        Trial.run("runScript(0, 0) throws argument", "runScript(4, 0) throws argument", "runScript(-1, 0) throws argument",
            "runScript(4, 300003000030000) throws argument", "runScript(0, 1) throws argument",
            "runScript(-2147483648, 0) throws argument", "runScript(2147483647, 0) throws argument");
    }

    // "script: the commands, a number of at most 5 * n digits (0 or more)"
    static void promise27AtMostFiveDigitsEach() {
        Trial.run("runScript(1, 99999) = 0", "runScript(1, 100000) throws argument", "runScript(2, 9999999999) = 0",
            "runScript(2, 10000000000) throws argument", "runScript(3, 999999999999999) = 0",
            "runScript(3, 1000000000000000) throws argument", "runScript(3, 9223372036854775807) throws argument");
    }

    static void promise27NoNegativeScript() {
        Trial.run("runScript(1, -1) throws argument", "runScript(2, -1) throws argument", "runScript(3, -1) throws argument",
            "runScript(3, -9223372036854775808) throws argument", "runScript(1, -30000) throws argument");
    }

    /** 30000 would be left of these numbers as an int. */
    static void promise27RefusesScriptsThatWrapAround() {
        Trial.run("runScript(1, 4294997296) throws argument", "runScript(1, -4294937296) throws argument",
            "runScript(2, 1844674407370985161) throws argument", "runScript(1, 30000) = -1");
    }

    // ---- promise 28: simulate

    private static final BigInteger FACTOR = BigInteger.valueOf(6364136223846793005L);
    private static final BigInteger ADDEND = BigInteger.valueOf(1442695040888963407L);
    private static final BigInteger WORD = BigInteger.ONE.shiftLeft(64);

    private static BigInteger next(BigInteger x) {
        return x.multiply(FACTOR).add(ADDEND).mod(WORD);
    }

    private static int r(BigInteger x) {
        return x.shiftRight(33).intValueExact();
    }

    /** The r of a session with these arguments, its day as the days behind today. */
    private static int sessionTurn(int kind, int room, int days, int first, int slots, int talk) {
        return kind + 8 * (room + 5 * (days + 4 * (first + 16 * (slots - 1 + 5 * (talk - 1)))));
    }

    private static int extendTurn(int k, int n) {
        return 4 + 8 * (k + 16 * (n - 1));
    }

    private static int leaveTurn(int p, int days) {
        return 5 + 8 * (p + 6 * days);
    }

    private static int giveTurn(int k, int p) {
        return 6 + 8 * (k + 16 * p);
    }

    /** A seed whose first turn has this r; of the r of the turns behind it the last three bits are these. */
    private static long seed(int first, int... kinds) {
        for (long low = 0; low < 1L << 24; low++) {
            BigInteger x = BigInteger.valueOf(first).shiftLeft(33).add(BigInteger.valueOf(low));
            BigInteger seed = x.subtract(ADDEND).multiply(FACTOR.modInverse(WORD)).mod(WORD);
            boolean fits = true;
            for (int i = 0; i < kinds.length && fits; i++) {
                x = next(x);
                fits = r(x) % 8 == kinds[i];
            }
            if (fits) {
                return seed.longValue();
            }
        }
        throw new AssertionError("no such seed");
    }

    private static void simulated(Trial t, int due, int first, int... kinds) {
        t.calls("simulate(" + seed(first, kinds) + ", " + (1 + kinds.length) + ") = " + due);
    }

    // "0 to 2: session(q % 5, today + q / 5 % 4, q / 20 % 16, 1 + q / 320 % 5, 1 + q / 1600 % 9)"
    static void promise28KindsOfSessions() {
        for (int kind = 0; kind <= 2; kind++) {
            simulated(new Trial(), 1000, sessionTurn(kind, 0, 0, 0, 1, 1), 7);
            simulated(new Trial(), 1000, sessionTurn(kind, 4, 0, 11, 5, 9), 7);
        }
    }

    static void promise28RoomsOfSessions() {
        for (int room = 0; room < 5; room++) {
            Trial t = new Trial().calls("session(" + room + ", 0, 3, 1, 1)");
            for (int other = 0; other < 5; other++) {
                simulated(t, other == room ? 1000 : 2000, sessionTurn(other % 3, other, 0, 3, 1, 1), 7);
            }
        }
    }

    static void promise28DaysOfSessions() {
        for (int days = 0; days < 4; days++) {
            int turn = sessionTurn(1, 2, days, 3, 2, 4);
            simulated(new Trial().calls("run(5)"), days == 0 ? 1000 : 0, turn, 7);
            simulated(new Trial().calls("run(5)"), days <= 1 ? 1000 : 0, turn, 7, 7);
            simulated(new Trial().calls("run(5)"), days <= 2 ? 1000 : 0, turn, 7, 7, 7);
            simulated(new Trial().calls("run(5)"), 1000, turn, 7, 7, 7, 7);
        }
    }

    static void promise28SlotsOfSessions() {
        for (int first = 0; first < 16; first++) {
            for (int slots = 1; slots <= 5; slots++) {
                simulated(new Trial(), first + slots <= 16 ? 1000 : 0, sessionTurn(0, 3, 0, first, slots, 2), 7);
            }
        }
        Trial t = Trial.run("session(0, 0, 7, 1, 1)");
        simulated(t, 2000, sessionTurn(0, 0, 0, 2, 5, 1), 7);
        simulated(t, 1000, sessionTurn(0, 0, 0, 3, 5, 1), 7);
        simulated(t, 1000, sessionTurn(0, 0, 0, 7, 1, 1), 7);
        simulated(t, 2000, sessionTurn(0, 0, 0, 8, 1, 1), 7);
    }

    /** With the speed 4, five slots leave time for 44 pages. */
    static void promise28TalkOfSessions() {
        simulated(Trial.run("hire(4)"), 1, sessionTurn(2, 1, 0, 0, 5, 9), 3, 7);
        simulated(Trial.run("hire(4)"), 0, sessionTurn(2, 1, 0, 0, 5, 8), 3, 7);
        simulated(Trial.run("hire(4)"), 0, sessionTurn(2, 1, 0, 0, 4, 9), 3, 7);
        simulated(Trial.run("hire(1)"), 1, sessionTurn(2, 1, 0, 0, 5, 3), 3, 7);
        simulated(Trial.run("hire(1)"), 0, sessionTurn(2, 1, 0, 0, 5, 2), 3, 7);
    }

    /** q may be far greater than what a session needs. */
    static void promise28GreatNumbers() {
        simulated(Trial.run("hire(4)"), 1, sessionTurn(0, 1, 0, 0, 5, 9) + 8 * 14400 * 18000, 3, 7);
        simulated(Trial.run("hire(4)"), 0, sessionTurn(0, 1, 0, 0, 5, 8) + 8 * 14400 * 18000, 3, 7);
        simulated(new Trial(), 0, Integer.MAX_VALUE);
        simulated(new Trial(), 0, 0);
    }

    // "3: giveAll()"
    static void promise28GivesAll() {
        Trial t = Trial.run("hire(1)", "session(0, 0, 0, 5, 9)", "session(1, 0, 4, 5, 9)");
        simulated(t, 1001, 3, 7);
        simulated(t, 2000, 7, 3);
        simulated(t, 1001, 3 + 8 * 77777, 7, 3);
    }

    // "4: extend(q % 16, 1 + q / 16 % 4)"
    static void promise28ExtendsByOneToFour() {
        for (int gap = 0; gap < 4; gap++) {
            Trial t = Trial.run("hire(20)").held(0, 0, 0, 0, 1, 1).held(0, 0, 0, 1 + gap, 1, 1);
            for (int n = 1; n <= 4; n++) {
                simulated(t, n > gap ? 1000 : 0, extendTurn(0, n), 7);
                simulated(t, n > gap ? 1000 : 0, extendTurn(0, n) + 8 * 64 * 4001, 7);
            }
        }
    }

    static void promise28ExtendsEachSession() {
        Trial t = Trial.staff(20);
        for (int i = 0; i < 16; i++) {
            t.held(0, i / 8, 0, i, 1, 1);
        }
        // Who has a session in all slots types nothing; the seven that 0 drives leave time for all pages.
        simulated(t, 7000, extendTurn(0, 1), 7);
        simulated(t, 1015, extendTurn(6, 1), 7);
        simulated(t, 1015, extendTurn(7, 1), 7);
        simulated(t, 15, extendTurn(14, 1), 7);
        simulated(t, 16, extendTurn(15, 1), 7);
    }

    // "What would throw an exception is left out."
    static void promise28LeavesOutOtherSessions() {
        simulated(Trial.run("hire(20)").held(0, 0, 0, 0, 1, 1).held(0, 0, 0, 1, 1, 1), 0, extendTurn(2, 1), 7);
        simulated(new Trial(), 0, extendTurn(0, 1), 7);
        simulated(Trial.run("hire(1)", "session(0, 0, 0, 1, 1)"), 1000, giveTurn(1, 0), 7);
    }

    static void promise28LeavesOutOtherStenographers() {
        simulated(Trial.run("hire(20)").held(0, 0, 0, 0, 1, 1), 0, leaveTurn(1, 3), 7);
        simulated(Trial.run("hire(20)", "session(0, 0, 0, 1, 1)"), 1000, giveTurn(0, 1), 7);
        simulated(new Trial(), 0, leaveTurn(0, 1), 7);
    }

    static void promise28LeavesOutWhatCannotBeGiven() {
        simulated(Trial.run("hire(20)", "session(0, 0, 0, 7, 1)"), 1000, giveTurn(0, 0), 7);
        simulated(Trial.run("hire(20)", "session(0, 0, 0, 6, 1)"), 0, giveTurn(0, 0), 7);
    }

    static void promise28LeavesOutTheSeventeenthSession() {
        Trial t = new Trial();
        for (int i = 0; i < 15; i++) {
            t.calls("session(0, 0, " + i + ", 1, 1)");
        }
        simulated(t, 16000, sessionTurn(0, 1, 0, 0, 1, 1), 7);
        t.calls("session(0, 0, 15, 1, 1)");
        simulated(t, 16000, sessionTurn(0, 1, 0, 0, 1, 1), 7);
    }

    static void promise28LeavesOutSessionsBehindTheLastDay() {
        Trial t = new Trial().times(33, "run(30)").calls("run(6)");
        simulated(t, 1000, sessionTurn(0, 0, 3, 0, 1, 1), 7, 7, 7, 7);
        t.calls("run(1)");
        simulated(t, 0, sessionTurn(0, 0, 3, 0, 1, 1), 7, 7, 7, 7);
        simulated(t, 1000, sessionTurn(0, 0, 2, 0, 1, 1), 7, 7, 7, 7);
    }

    // "5: leave(q % 6, q / 6 % 4)"
    static void promise28GivesLeave() {
        for (int p = 0; p < 6; p += 5) {
            Trial t = Trial.staff(20, 20, 20, 20, 20, 20);
            for (int day = 0; day < 5; day++) {
                t.held(p, 0, day, 0, 1, 1);
            }
            for (int days = 0; days < 4; days++) {
                simulated(t, 1000 * days, leaveTurn(p, days), 7, 7, 7, 7);
                simulated(t, 1000 * days, leaveTurn(p, days) + 8 * 24 * 9001, 7, 7, 7, 7);
            }
            simulated(t, 0, leaveTurn(p == 0 ? 1 : 4, 3), 7, 7, 7, 7);
        }
    }

    // "6: give(q % 16, q / 16 % 6)"
    static void promise28Gives() {
        Trial t = Trial.run("hire(1)", "hire(1)", "hire(1)", "hire(1)", "hire(1)", "hire(20)");
        for (int i = 0; i < 16; i++) {
            t.calls("session(0, 0, " + i + ", 1, " + (i == 15 ? 9 : 1) + ")");
        }
        simulated(t, 15000, giveTurn(0, 0), 7);
        simulated(t, 15000, giveTurn(15, 5), 7);
        simulated(t, 15000, giveTurn(15, 5) + 8 * 96 * 2001, 7);
        t.calls("leave(5, 1)");
        simulated(t, 16000, giveTurn(15, 5), 7);
        simulated(t, 15000, giveTurn(15, 4), 7);
        simulated(t, 15000, giveTurn(14, 4), 7);
        simulated(t, 16000, giveTurn(14, 5), 7);
    }

    // "7: run(1)"
    static void promise28Runs() {
        Trial t = Trial.run("session(0, 0, 0, 1, 1)", "session(0, 1, 0, 1, 1)", "session(0, 2, 0, 1, 1)");
        simulated(t, 1000, 7);
        simulated(t, 1000, 7 + 8 * 12345);
        simulated(t, 2000, 7, 7);
        simulated(t, 3000, 7, 7, 7);
    }

    // "Returns 1000 * (the sessions lost in them) + (the transcripts on desks at the end)"
    static void promise28ReturnsWhatIsLostAndWhatIsOnDesks() {
        Trial t = Trial.staff(1).calls("session(0, 0, 0, 1, 1)").held(0, 0, 1, 0, 16, 9).held(0, 0, 2, 0, 8, 9)
            .held(0, 0, 2, 8, 8, 9).calls("session(1, 2, 0, 1, 1)", "run(2)");
        t.calls("about(6) = 1", "about(4) = 1");
        simulated(t, 1, 3);
        simulated(t, 1, 5);
        simulated(t, 1003, 7);
    }

    /** Does by calls what a simulation does, with numbers of 64 bits that are reckoned without overflow. */
    private static String byCalls(StenoRooms y, long seed, int m) {
        int lost = y.about(6);
        BigInteger x = BigInteger.valueOf(seed).mod(WORD);
        for (int i = 0; i < m; i++) {
            x = next(x);
            turn(y, r(x) % 8, r(x) / 8);
        }
        return Integer.toString(1000 * (y.about(6) - lost) + y.about(4));
    }

    private static void turn(StenoRooms y, int kind, int q) {
        switch (kind) {
            case 3: Call.of("giveAll").answer(y); break;
            case 4: Call.of("extend", q % 16, 1 + q / 16 % 4).answer(y); break;
            case 5: Call.of("leave", q % 6, q / 6 % 4).answer(y); break;
            case 6: Call.of("give", q % 16, q / 16 % 6).answer(y); break;
            case 7: Call.of("run", 1).answer(y); break;
            default: Call.of("session", q % 5, y.about(2) + q / 5 % 4, q / 20 % 16, 1 + q / 320 % 5, 1 + q / 1600 % 9).answer(y);
        }
    }

    private static StenoRooms busy(int staff) {
        StenoRooms x = new StenoRooms();
        for (int p = 0; p < staff; p++) {
            x.hire(1 + 2 * p);
        }
        x.set(2, staff % 3);
        for (int i = 0; i < 8; i++) {
            x.session(i % 5, i / 3, i, 1 + i % 4, 1 + i);
        }
        x.giveAll();
        x.run(1);
        return x;
    }

    private static void asByCalls(int staff, long seed, int m) {
        String due = byCalls(busy(staff), seed, m);
        StenoRooms x = busy(staff);
        Trial.same("simulate(" + seed + ", " + m + ")", Call.of("simulate", seed, m).answer(x), due);
        Trial.same("simulate(" + seed + ", " + m + ") again", Call.of("simulate", seed, m).answer(x), due);
    }

    // "seed: any long", "(with long overflow)"
    static void promise28AnySeed() {
        long[] seeds = {0, 1, -1, Long.MIN_VALUE, Long.MAX_VALUE, Integer.MIN_VALUE, Integer.MAX_VALUE, 1L << 32, 1L << 33,
            -(1L << 33), 6364136223846793005L, -1442695040888963407L};
        for (long seed : seeds) {
            for (int m = 1; m <= 60; m++) {
                asByCalls(3, seed, m);
            }
        }
    }

    static void promise28ManySeeds() {
        for (int i = 0; i < 700; i++) {
            asByCalls(i % 7, i * 0xBF58476D1CE4E5B9L, 1 + i * 37 % 60);
        }
    }

    // "m: number of turns, 1 to 60"
    static void promise28RefusesOtherNumbersOfTurns() {
        Trial.run("hire(1)", "session(0, 0, 0, 1, 1)", "simulate(0, 0) throws argument", "simulate(0, 61) throws argument",
            "simulate(0, -1) throws argument", "simulate(0, -2147483648) throws argument",
            "simulate(0, 2147483647) throws argument");
    }
}
