import java.lang.management.ManagementFactory;

/** The room that calls take: nothing is thrown away, so what is made must stay small over a whole run. */
public final class RoomTest {
    private static final int CALLS = 512;

    private static int wrong = 0;

    public static void main(String[] args) {
        fits("512 calls with as many transcripts as can be", 2_000_000, manyTranscripts());
        fits("512 objects", 30_000_000, manyObjects());
        System.out.println("RoomTest: " + (wrong == 0 ? "all as due" : wrong + " not as due"));
        if (wrong != 0) {
            System.exit(1);
        }
    }

    private static void fits(String what, long limit, long bytes) {
        System.out.println(what + ": " + bytes + " bytes");
        if (bytes > limit) {
            wrong++;
            System.out.println(what + " took " + bytes + " bytes, more than " + limit);
        }
    }

    private static long bytesSoFar() {
        return ((com.sun.management.ThreadMXBean) ManagementFactory.getThreadMXBean()).getCurrentThreadAllocatedBytes();
    }

    private static long manyTranscripts() {
        long before = bytesSoFar();
        StenoRooms x = new StenoRooms();
        x.hire(1);
        x.set(0, 16);
        x.set(1, 16);
        int day = 0;
        int slot = 0;
        for (int call = 3; call < CALLS - 20; call++) {
            if (slot < 16) {
                x.session(0, day, slot, 1, 9);
                slot++;
            } else {
                x.giveAll();
                x.run(1);
                call++;
                day++;
                slot = 0;
            }
        }
        for (int i = 0; i < 4; i++) {
            x.save(i % 2);
            x.coming(60, 3);
            x.emptyIn(0);
            x.ifHired(20, 30);
            x.simulate(i, 60);
        }
        return bytesSoFar() - before;
    }

    private static long manyObjects() {
        long before = bytesSoFar();
        for (int i = 0; i < CALLS; i++) {
            new StenoRooms();
        }
        return bytesSoFar() - before;
    }
}
