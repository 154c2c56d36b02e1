/** Promises 27 and 28: scripts and simulations. */
public final class ScriptsTest {
    private static final int NONE = StenoRooms.NONE;

    public static void main(String[] args) {
        promise27Session();
        promise27Give();
        promise27GiveAll();
        promise27Extend();
        promise27Leave();
        promise27Run();
        promise27Tests();
        promise27OtherGroups();
        promise27InOrder();
        promise27Refusals();
        promise28OneTurnEach();
        promise28ManyTurns();
        promise28Refusals();
        Check.end("ScriptsTest");
    }

    private static void script(StenoRooms x, int n, long script, int due) {
        Check.tells("runScript(" + n + ", " + script + ")", x, due, () -> x.runScript(n, script));
    }

    private static void succeeds(StenoRooms x, int group) {
        script(x, 1, group, NONE);
    }

    private static void failsAtOnce(StenoRooms x, int group) {
        script(x, 1, group, 0);
    }

    private static void promise27Session() {
        StenoRooms x = new StenoRooms();
        succeeds(x, 10001);
        succeeds(x, 14151);
        succeeds(x, 12079);
        failsAtOnce(x, 15001);
        failsAtOnce(x, 10161);
        failsAtOnce(x, 10152);
        failsAtOnce(x, 10000);
        failsAtOnce(x, 12179);
        x.session(1, 0, 4, 4, 1);
        failsAtOnce(x, 11071);
        succeeds(x, 11081);
        succeeds(x, 12071);
        x.run(1);
        succeeds(x, 11071);
        x.hire(1);
        script(x, 3, 10002_30000_60001L, NONE);
        x.session(1, 1, 0, 6, 1);
        x.session(1, 1, 6, 6, 1);
        x.giveAll();
        script(x, 3, 10131_20200_80000L, NONE);
    }

    private static void promise27Give() {
        StenoRooms x = new StenoRooms();
        x.hire(1);
        x.hire(1);
        for (int i = 0; i < 12; i++) {
            x.session(0, i, 0, 1, 1);
        }
        x.session(1, 3, 0, 1, 1);
        succeeds(x, 20000);
        succeeds(x, 21110);
        succeeds(x, 21210);
        failsAtOnce(x, 21310);
        failsAtOnce(x, 29900);
        failsAtOnce(x, 20020);
        failsAtOnce(x, 20090);
        failsAtOnce(x, 20001);
        failsAtOnce(x, 20009);
        x.give(3, 0);
        failsAtOnce(x, 20400);
        succeeds(x, 20410);
        succeeds(x, 20300);
        script(x, 2, 21110_91110L, NONE);
        script(x, 2, 21110_91100L, 1);
    }

    private static void promise27GiveAll() {
        StenoRooms x = new StenoRooms();
        succeeds(x, 30000);
        failsAtOnce(x, 31000);
        failsAtOnce(x, 30100);
        failsAtOnce(x, 30010);
        failsAtOnce(x, 30001);
        x.hire(1);
        x.session(0, 0, 0, 1, 1);
        failsAtOnce(x, 70000);
        script(x, 2, 30000_70000L, NONE);
    }

    private static void promise27Extend() {
        StenoRooms x = Check.staff(1);
        for (int i = 0; i < 11; i++) {
            x.session(0, i, 0, 1, 1);
        }
        x.session(0, 10, 1, 15, 1);
        succeeds(x, 40001);
        succeeds(x, 41016);
        succeeds(x, 41116);
        failsAtOnce(x, 41201);
        failsAtOnce(x, 40000);
        failsAtOnce(x, 40017);
        failsAtOnce(x, 40099);
        // The session 11 begins at the end of the session 10, or is gone.
        script(x, 2, 41014_41101L, NONE);
        script(x, 2, 41015_41101L, 1);
    }

    private static void promise27Leave() {
        StenoRooms x = new StenoRooms();
        failsAtOnce(x, 50001);
        x.hire(1);
        x.session(0, 29, 0, 1, 1);
        x.session(0, 30, 0, 1, 1);
        succeeds(x, 50000);
        succeeds(x, 50030);
        failsAtOnce(x, 50031);
        failsAtOnce(x, 50101);
        failsAtOnce(x, 50901);
        failsAtOnce(x, 51001);
        x.giveAll();
        script(x, 2, 50030_70000L, 1);
        script(x, 2, 50030_70001L, NONE);
        script(x, 2, 50029_70000L, NONE);
        x.hire(1);
        succeeds(x, 51012);
    }

    private static void promise27Run() {
        StenoRooms x = new StenoRooms();
        succeeds(x, 60001);
        succeeds(x, 60030);
        failsAtOnce(x, 60000);
        failsAtOnce(x, 60031);
        failsAtOnce(x, 60101);
        failsAtOnce(x, 61001);
        x.session(0, 12, 0, 1, 1);
        script(x, 2, 60013_70000L, NONE);
        script(x, 2, 60012_70000L, 1);
    }

    private static void promise27Tests() {
        StenoRooms x = Check.staff(1, 1);
        for (int i = 0; i < 11; i++) {
            x.session(0, 0, i, 1, 9);
        }
        succeeds(x, 70011);
        succeeds(x, 70099);
        failsAtOnce(x, 70010);
        failsAtOnce(x, 70111);
        failsAtOnce(x, 71011);
        for (int i = 0; i < 11; i++) {
            x.give(i, i == 5 ? 0 : 1);
        }
        succeeds(x, 90500);
        succeeds(x, 91010);
        failsAtOnce(x, 90510);
        failsAtOnce(x, 90501);
        failsAtOnce(x, 91100);
        failsAtOnce(x, 90590);
        x.give(5, NONE);
        failsAtOnce(x, 90500);
        failsAtOnce(x, 90590);
        x.give(5, 0);
        x.session(1, 0, 11, 5, 1);
        x.give(11, 1);
        succeeds(x, 91110);
        x.run(1);
        Check.is("transcripts on the desk of 1", x.stenographer(1, 3), 11);
        succeeds(x, 81110);
        succeeds(x, 81990);
        failsAtOnce(x, 81100);
        failsAtOnce(x, 81111);
        succeeds(x, 80000);
        failsAtOnce(x, 82990);
        failsAtOnce(x, 89990);
    }

    private static void promise27OtherGroups() {
        StenoRooms x = Check.staff(1);
        failsAtOnce(x, 0);
        failsAtOnce(x, 1);
        failsAtOnce(x, 3000);
        failsAtOnce(x, 9999);
    }

    private static void promise27InOrder() {
        StenoRooms x = Check.staff(1);
        x.session(0, 0, 0, 1, 1);
        script(x, 2, 70000, 0);
        script(x, 2, 30000_00000L, 1);
        script(x, 3, 30000_70000_00000L, 2);
        script(x, 3, 30000, 0);
        script(x, 3, 30000_70000L, 0);
        script(x, 3, 30000_70000_90000L, NONE);
        script(x, 3, 70000_30000_90000L, 0);
        script(x, 3, 99999_30000_90000L, 0);
        script(x, 3, 70099_90000_30000L, 1);
        script(x, 3, 60030_60030_60030L, NONE);
        script(x, 3, 40001_40001_40001L, NONE);
    }

    private static void promise27Refusals() {
        StenoRooms x = Check.staff(1);
        Check.argument("runScript(0, 0)", x, () -> x.runScript(0, 0));
        Check.argument("runScript(4, 0)", x, () -> x.runScript(4, 0));
        Check.argument("runScript(-1, 0)", x, () -> x.runScript(-1, 0));
        Check.argument("runScript(1, -1)", x, () -> x.runScript(1, -1));
        Check.argument("runScript(1, 100000)", x, () -> x.runScript(1, 100000));
        Check.argument("runScript(2, 10^10)", x, () -> x.runScript(2, 10_000_000_000L));
        Check.argument("runScript(3, 10^15)", x, () -> x.runScript(3, 1_000_000_000_000_000L));
        Check.argument("runScript(3, greatest)", x, () -> x.runScript(3, Long.MAX_VALUE));
        Check.argument("runScript(3, least)", x, () -> x.runScript(3, Long.MIN_VALUE));
        script(x, 1, 99999, 0);
        script(x, 2, 9_999_999_999L, 0);
        script(x, 3, 999_999_999_999_999L, 0);
    }

    /** Does by calls what a simulation does. */
    private static int simulated(StenoRooms y, long seed, int m) {
        int lost = y.about(6);
        long x = seed;
        for (int i = 0; i < m; i++) {
            x = x * 6364136223846793005L + 1442695040888963407L;
            int r = (int) (x >>> 33);
            try {
                turn(y, r % 8, r / 8);
            } catch (IndexOutOfBoundsException | IllegalArgumentException | IllegalStateException e) {
                // It is left out.
            }
        }
        return 1000 * (y.about(6) - lost) + y.about(4);
    }

    private static void turn(StenoRooms y, int kind, int q) {
        switch (kind) {
            case 3: y.giveAll(); break;
            case 4: y.extend(q % 16, 1 + q / 16 % 4); break;
            case 5: y.leave(q % 6, q / 6 % 4); break;
            case 6: y.give(q % 16, q / 16 % 6); break;
            case 7: y.run(1); break;
            default: y.session(q % 5, y.about(2) + q / 5 % 4, q / 20 % 16, 1 + q / 320 % 5, 1 + q / 1600 % 9);
        }
    }

    private static StenoRooms busy(int staff) {
        StenoRooms x = new StenoRooms();
        for (int p = 0; p < staff; p++) {
            x.hire(1 + 2 * p);
        }
        x.set(2, staff % 3);
        for (int i = 0; i < 8; i++) {
            x.session(i % 5, i / 3, i, 1 + i % 4, 1 + i);
        }
        x.giveAll();
        x.run(1);
        return x;
    }

    private static void promise28OneTurnEach() {
        for (long seed = -200; seed <= 200; seed++) {
            long s = seed * 0x9E3779B97F4A7C15L;
            StenoRooms x = busy(3);
            int due = simulated(busy(3), s, 1);
            Check.tells("simulate(" + s + ", 1)", x, due, () -> x.simulate(s, 1));
        }
    }

    private static void promise28ManyTurns() {
        for (int i = 0; i < 420; i++) {
            int staff = i % 7;
            int m = 1 + i * 37 % 60;
            long seed = i < 3 ? new long[] {0, Long.MIN_VALUE, Long.MAX_VALUE}[i] : i * 0xBF58476D1CE4E5B9L;
            StenoRooms x = busy(staff);
            int due = simulated(busy(staff), seed, m);
            Check.tells("simulate(" + seed + ", " + m + ")", x, due, () -> x.simulate(seed, m));
        }
        StenoRooms x = busy(2);
        Check.is("simulate(7, 60)", x.simulate(7, 60), simulated(busy(2), 7, 60));
    }

    private static void promise28Refusals() {
        StenoRooms x = busy(2);
        Check.argument("simulate(0, 0)", x, () -> x.simulate(0, 0));
        Check.argument("simulate(0, 61)", x, () -> x.simulate(0, 61));
        Check.argument("simulate(0, -1)", x, () -> x.simulate(0, -1));
    }
}
