import java.lang.management.ManagementFactory;

/** The dearest calls, 512 of them on one object, make far less than all runs may hold together. */
public final class RoomTest {
    private static final String KINDS = "kind aa one 20 two 10 three 3 four 5 limit 40;"
        + "kind bb one 8 two 0 three 1 four 2 limit 7;";
    /** 7.3 million elements are the whole room; each is counted as a byte at least. */
    private static final long MOST_BYTES = 2_000_000;

    private static long made() {
        return ((com.sun.management.ThreadMXBean) ManagementFactory.getThreadMXBean())
            .getThreadAllocatedBytes(Thread.currentThread().getId());
    }

    private static PlyStacker eightTypes() {
        StringBuilder text = new StringBuilder("plate room 8;").append(KINDS);
        for (String angle : new String[] {"flat", "rise", "fall", "cross"}) {
            text.append("ply aa ").append(angle).append(";ply bb ").append(angle).append(';');
        }
        return Feeder.plate(text.toString());
    }

    private static void dear(PlyStacker x, int k) {
        switch (k % 8) {
            case 0: x.room(7 - k / 8 % 2); break;
            case 1: x.unlike(k / 8 % 8); break;
            case 2: x.undo(); break;
            case 3: x.best(0, k / 8 % 4); break;
            case 4: x.step(0, 1, 4); break;
            case 5: x.frailSet(1, 1, 1); break;
            case 6: x.image(k / 8 % 3); break;
            default: x.common(0, 0);
        }
    }

    public static void main(String[] args) {
        // once ahead, so that what the machine makes for the classes themselves is not counted
        dear(eightTypes(), 1);
        long start = made();
        PlyStacker fresh = new PlyStacker();
        long empty = made() - start;
        PlyStacker x = eightTypes();
        start = made();
        for (int k = 0; k < 490; k++) dear(x, k);
        long dear = made() - start;
        System.out.println("a new object makes " + empty + " bytes, the dearest calls " + dear);
        boolean good = fresh.count(2) == 0 && empty < 20_000 && dear < MOST_BYTES;
        if (!good) System.exit(1);
    }
}
