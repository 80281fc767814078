import java.lang.management.ManagementFactory;

/** A run of 512 calls has to live in one room: the dearest ones, with all that they make counted. */
public final class RoomTest {
    /** Elements have up to eight bytes: this is far within the room. */
    private static final long ROOM_BYTES = 7_300_000L;

    public static void main(String[] args) {
        fewerBytes("a new object", 0);
        fewerBytes("large automata", 1);
        fewerBytes("growing automata", 2);
        fewerBytes("descents", 3);
        Check.end();
    }

    private static long made() {
        return ((com.sun.management.ThreadMXBean) ManagementFactory.getThreadMXBean())
            .getThreadAllocatedBytes(Thread.currentThread().getId());
    }

    /** The first time the machine's own making of classes is counted, too. */
    private static void fewerBytes(String name, int kind) {
        run(kind);
        long before = made();
        run(kind);
        long bytes = made() - before;
        System.out.println(name + ": " + bytes + " bytes");
        Check.holds(name + ": " + bytes + " bytes", bytes < ROOM_BYTES);
    }

    private static void run(int kind) {
        RosterRules x = new RosterRules(8, 21);
        for (int round = 0; kind == 1 && round < 8; round++) {
            Check.read(x, "never \".*a.{8,8}\"1;".repeat(16));
            askAll(x);
        }
        for (int round = 0; kind == 2 && round < 9; round++) {
            int n = Math.min(8, round + 1);
            Check.read(x, ("never \".*a.{" + n + "," + n + "}\"1;").repeat(16));
            askAll(x);
        }
        if (kind == 3) {
            Check.read(x, "never \"[ab]+-[cd]*a\"9;".repeat(10) + "rest 700 3;hours 1440 2400 7 1;fair b 3;cover a 2 3 10;skill 4;");
        }
        for (int i = 0; kind == 3 && i < 60; i++) {
            x.descend(3);
            x.undo();
            x.undo();
        }
    }

    private static void askAll(RosterRules x) {
        for (int k = 0; k < 16; k++) {
            Check.holds("states", x.law(k, 3) > 3);
        }
    }
}
