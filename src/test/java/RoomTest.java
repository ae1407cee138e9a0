import java.lang.management.ManagementFactory;

/** 512 of the dearest calls make fewer bytes than a run may have elements, so also few enough objects. */
public final class RoomTest {
    private static final int CALLS = 512;
    private static final long MOST_BYTES = 7_300_000;

    public static void main(String[] args) {
        com.sun.management.ThreadMXBean room =
                (com.sun.management.ThreadMXBean) ManagementFactory.getThreadMXBean();
        long me = Thread.currentThread().getId();
        long before = room.getThreadAllocatedBytes(me);
        dearCalls();
        long bytes = room.getThreadAllocatedBytes(me) - before;
        System.out.println(bytes + " bytes for " + CALLS + " dear calls");
        if (bytes > MOST_BYTES) {
            System.exit(1);
        }
    }

    private static void dearCalls() {
        RiverParcelService x = new RiverParcelService();
        for (int i = 0; i < 9; i++) {
            x.addPlace();
        }
        for (int i = 0; i < 20; i++) {
            x.addLink(i % 9, (i + 1 + i / 9) % 9, 1 + i % 9, i % 6);
        }
        for (int i = 0; i < 12; i++) {
            x.post(i % 9, (i + 5) % 9, 1, 10);
        }
        for (int i = 0; i < CALLS - 41; i++) {
            switch (i % 8) {
                case 0 -> x.deliveredIf(60);
                case 1 -> x.isConsistent();
                case 2 -> x.parcelByForecast(11);
                case 3 -> x.addStamps(11, 1);
                case 4 -> x.formatParcel(i % 12);
                case 5 -> x.undo();
                case 6 -> x.save();
                default -> x.restore();
            }
        }
    }
}
