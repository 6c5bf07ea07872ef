import java.lang.management.ManagementFactory;

/** What a run of calls makes is small: an object's rows are made once and used again. */
public final class RoomTest {
    private static final long MOST_FOR_OBJECT = 150_000;
    private static final long MOST_FOR_CALLS = 20_000;
    private static final Check CHECK = new Check("RoomTest");

    public static void main(String[] args) {
        com.sun.management.ThreadMXBean beans =
            (com.sun.management.ThreadMXBean) ManagementFactory.getThreadMXBean();
        // Once without measure: what the machine itself makes for it comes here.
        useAll(new BackLogic(), 1);
        long start = beans.getCurrentThreadAllocatedBytes();
        BackLogic x = new BackLogic();
        long last = useAll(x, 1);
        long made = beans.getCurrentThreadAllocatedBytes();
        last += useAll(x, 10);
        long called = beans.getCurrentThreadAllocatedBytes();
        System.out.println("an object: " + (made - start) + " bytes, its later calls: " + (called - made));
        CHECK.due("the object is small", made - start <= MOST_FOR_OBJECT, true);
        CHECK.due("its calls make nothing", called - made <= MOST_FOR_CALLS, true);
        CHECK.due("answers were used", last != 0, true);
        CHECK.end();
    }

    private static long useAll(BackLogic x, int times) {
        long sum = 0;
        for (int i = 0; i < times; i++) {
            // wire a;wire b;wire c;table 3 3 7 7 7 7 7 7 7 7;
            x.feed(0x77697265, 0x20613b77, 0x69726520, 0x623b7769, 0x72652063);
            x.feed(0x3b746162, 0x6c652033, 0x20332037, 0x20372037, 0x20372037);
            x.feed(0x20372037, 0x20373b20, 0x20202020, 0x20202020, 0x20202020);
            sum += x.read();
            for (int g = 0; g < 16; g++) {
                x.put(g, g % 3, g % 3 == 0 ? 2 : 0, g % 3 == 1 ? 5 : 0);
            }
            x.hold(0);
            for (int what = -1; what < 17; what++) {
                sum += x.count(what) + x.order(what) + x.gate(what, what) + x.table(what)
                    + x.shrunk(what, 1) + x.found(true, what, 1) + x.found(false, what, 1)
                    + x.least(what, 1) + x.laid(what) + x.test(what) + x.idle(what)
                    + x.terms(what) + x.stuck(what, 1, true) + x.made(what, 9) + x.undone(what)
                    + x.agree(what, 1) + x.like(0) + x.off(0);
                sum += x.become(what % 5);
            }
            sum += x.undo() ? 1 : 0;
            sum += x.restore(0) ? 1 : 0;
        }
        return sum;
    }
}
