import java.lang.management.ManagementFactory;

/** A run may make some 600,000 objects in all: here the calls themselves make next to nothing. */
public final class RoomTest {
    private static final com.sun.management.ThreadMXBean THREADS = (com.sun.management.ThreadMXBean) ManagementFactory.getThreadMXBean();
    private static final int CALLS = 512;

    private static long sink = 0;

    public static void main(String[] args) {
        play(new MeterTree());
        long before = THREADS.getCurrentThreadAllocatedBytes();
        MeterTree tree = new MeterTree();
        long made = THREADS.getCurrentThreadAllocatedBytes() - before;
        within("a new object", made, 20000);
        before = THREADS.getCurrentThreadAllocatedBytes();
        play(tree);
        made = THREADS.getCurrentThreadAllocatedBytes() - before;
        within("a run of calls", made, 60000);
        Checks.end("RoomTest");
    }

    private static void within(String what, long made, long bound) {
        System.out.println(what + " makes " + made + " bytes");
        Checks.due(what + " stays below " + bound + " bytes", made < bound ? 1 : 0, 1);
    }

    private static void play(MeterTree tree) {
        for (int meter = 0; meter < 10; meter++) {
            tree.addMeter(meter / 2);
        }
        for (int call = 10; call < CALLS; call++) {
            int meter = call % 10;
            switch (call % 13) {
                case 0 -> sink += tree.setAll(meter, call, call);
                case 1 -> sink += tree.suspect(0);
                case 2 -> sink += tree.revise();
                case 3 -> sink += tree.day(meter, 2);
                case 4 -> sink += tree.shareBits(meter);
                case 5 -> sink += tree.type("0@1=2;".charAt(call / 13 % 6));
                case 6 -> sink += tree.load();
                case 7 -> sink += tree.digest();
                case 8 -> sink += tree.removeReading(meter, call % 12);
                case 9 -> sink += tree.undo();
                case 10 -> sink += tree.clearRevisions();
                case 11 -> sink += tree.nextFault(0, -1);
                default -> sink += tree.part(meter, 3);
            }
        }
    }
}
