import java.lang.management.ManagementFactory;

/** All calls of a run live in one room: what the dearest calls of one object make must stay small. */
public final class RoomTest {
    private static final long BYTES_MOST = 200000;

    public static void main(String[] args) {
        com.sun.management.ThreadMXBean threads = (com.sun.management.ThreadMXBean) ManagementFactory.getThreadMXBean();
        long me = Thread.currentThread().getId();
        dearCalls(new LateStamps());
        LateStamps x = new LateStamps();
        long before = threads.getThreadAllocatedBytes(me);
        dearCalls(x);
        long made = threads.getThreadAllocatedBytes(me) - before;
        System.out.println("512 dear calls made " + made + " bytes");
        if (made > BYTES_MOST) System.exit(1);
    }

    private static void tell(LateStamps x, String text, int sort) {
        for (int i = 0; i < text.length(); i++) x.feed(text.charAt(i), 0, 0, 0, 0);
        if (x.text(sort) < 0) throw new IllegalStateException(text);
    }

    private static void dearCalls(LateStamps x) {
        tell(x, "sm9p1;k;k;k;k;k;k", 0);
        tell(x, "o01;r00;w01:7;r02;r03;c0", 1);
        tell(x, "o11;r10;w11:7;r12;r13;c1", 1);
        x.image();
        for (int i = 0; i < 100; i++) {
            x.years(40, i);
            x.mix(0, 1, 1);
            x.odds(7, 50);
            x.back();
        }
    }
}
