import java.lang.management.ManagementFactory;

/** What 512 calls make: rows are made once, in constructors, so that a call that throws nothing makes nothing. */
public final class RoomTest {
    private static final int CALLS = 512;
    private static final long MOST_BYTES = 64 * 1024;

    public static void main(String[] args) {
        com.sun.management.ThreadMXBean threads =
                (com.sun.management.ThreadMXBean) ManagementFactory.getThreadMXBean();
        if (!threads.isThreadAllocatedMemorySupported()) {
            System.out.println("what a thread makes is not told here");
            return;
        }
        for (int kind = 0; kind < 8; kind++) {
            Manyshiftloom loom = dear();
            calls(loom, kind, 8);
            long before = threads.getThreadAllocatedBytes(Thread.currentThread().getId());
            calls(loom, kind, CALLS);
            long made = threads.getThreadAllocatedBytes(Thread.currentThread().getId()) - before;
            Check.note(made <= MOST_BYTES, "calls of kind " + kind + " made " + made + " bytes");
        }
        long before = threads.getThreadAllocatedBytes(Thread.currentThread().getId());
        new Manyshiftloom();
        long made = threads.getThreadAllocatedBytes(Thread.currentThread().getId()) - before;
        Check.note(made <= 2 * MOST_BYTES, "a new loom made " + made + " bytes");
        Check.close();
    }

    private static Manyshiftloom dear() {
        Manyshiftloom loom = Looms.alike(8);
        for (int order = 0; order < 8; order++) {
            loom.setAmount(order, 1 + order % 4);
        }
        loom.rest(0, 3, 5);
        loom.workers(1, 1);
        return loom;
    }

    private static void calls(Manyshiftloom loom, int kind, int calls) {
        for (int call = 0; call < calls; call++) {
            switch (kind) {
                case 0:
                    loom.least();
                    break;
                case 1:
                    loom.improve();
                    break;
                case 2:
                    loom.errors();
                    break;
                case 3:
                    loom.plan(call % 6);
                    break;
                case 4:
                    loom.move(call % 8, 3);
                    break;
                case 5:
                    loom.without(call % 8);
                    loom.oneAt(0, 2, 1);
                    loom.twoAt(0, 1, 1);
                    break;
                case 6:
                    loom.keep(call % 3);
                    loom.differ(call % 3);
                    loom.undo();
                    break;
                default:
                    loom.append(0x20, 0, 0, 0, 0);
                    loom.write();
                    loom.clearTape();
                    loom.checksum();
            }
        }
    }
}
