import java.lang.management.ManagementFactory;

/** All calls of a run live in one room: the constructor's share is small, and the calls take none. */
public final class RoomTest {
    private static final Check CHECK = new Check("RoomTest");

    /** Some 500 calls: families, and five rounds of the dearest ones, a long row that goes to and fro. */
    private static void use(LabelHall x) {
        x.row(0, 3, 40);
        x.row(1, 3, 40);
        for (int i = 0; i < 230; i++) {
            x.put(0, i - 1, false);
            x.mark(i % 20, 0, i, i & 1);
        }
        for (int i = 0; i < 5; i++) {
            x.join(0, 1);
            x.join(1, 0);
            x.move(100, -1, false);
            x.undo();
            x.putAt(i);
            x.depth(229);
            x.meet(100, 229);
        }
    }

    public static void main(String[] args) {
        com.sun.management.ThreadMXBean bean =
            (com.sun.management.ThreadMXBean) ManagementFactory.getThreadMXBean();
        long id = Thread.currentThread().getId();
        use(new LabelHall());
        bean.getThreadAllocatedBytes(id);
        long start = bean.getThreadAllocatedBytes(id);
        LabelHall x = new LabelHall();
        long made = bean.getThreadAllocatedBytes(id);
        use(x);
        long used = bean.getThreadAllocatedBytes(id);
        System.out.println("RoomTest: constructor " + (made - start) + " bytes, calls " + (used - made));
        CHECK.yes("the constructor makes less than 200,000 bytes", made - start < 200_000);
        CHECK.yes("the calls make nothing to speak of", used - made < 2_000);
        CHECK.end();
    }
}
