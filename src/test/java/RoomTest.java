import java.lang.management.ManagementFactory;

/** Counts the room that an object takes: all of it is taken by the constructor, none by a call. */
public final class RoomTest {
    /** About what 5,000 elements of four bytes and 150 objects take. */
    private static final long NEW_OBJECT = 24_000;
    /** Far below what one array in each call would take. */
    private static final long ALL_CALLS = 4_000;

    private static int failed;

    private RoomTest() {
    }

    public static void main(String[] args) {
        use(new BarStrips());
        long before = taken();
        BarStrips x = new BarStrips();
        long made = taken();
        use(x);
        long after = taken();
        test("a new object takes " + (made - before) + " bytes", made - before <= NEW_OBJECT);
        test("all its calls take " + (after - made) + " bytes", after - made <= ALL_CALLS);
        if (failed > 0) {
            System.exit(1);
        }
    }

    private static void test(String name, boolean good) {
        System.out.println((good ? "ok " : "FAILED ") + name);
        failed += good ? 0 : 1;
    }

    private static long taken() {
        com.sun.management.ThreadMXBean bean =
                (com.sun.management.ThreadMXBean) ManagementFactory.getThreadMXBean();
        return bean.getCurrentThreadAllocatedBytes();
    }

    private static void use(BarStrips x) {
        for (int i = 0; i < 30; i++) {
            x.bar(i % 12, i * 5, 4);
        }
        for (int i = 0; i < 40; i++) {
            x.arrow(i % 20, i % 20 + 1 + i / 20);
        }
        for (int i = 0; i < 40; i++) {
            x.keep();
            x.slip(i % 30, 1);
            x.pull(i % 30);
            x.swap(i % 12, 11);
            x.width(i, i + 9, 1 + i % 9);
            x.set(0, i % 3);
            x.type(i % 4 == 0 ? '1' : '>');
            x.addAll();
            x.barOf(i % 30, i % 12);
            x.arrowOf(i, i % 8);
            x.count(i % 17);
        }
        x.pack();
        x.move(0, 11, 190);
        x.restore();
        x.undo();
        for (int i = 0; i < 4; i++) {
            x.bestSwap(i);
            x.bestLane(i);
            x.ifSlipped(i, 9);
            x.strip(i, i);
            x.reason(i, 20);
        }
        x.takeArrow(3);
        x.takeBar(3);
        x.share();
        x.longest();
        x.clearText();
    }
}
