import java.lang.management.ManagementFactory;
import java.util.function.IntConsumer;

/** The room of a run: the dearest calls, 512 of each, make almost nothing anew once the object is there. */
public final class RoomTest {
    /** 7.3 million fields and elements take no less than 4 bytes each. */
    private static final long RUN_BYTES = 4L * 7_300_000 / 20;
    private static int wrong = 0;

    private static long allocated() {
        com.sun.management.ThreadMXBean bean = (com.sun.management.ThreadMXBean) ManagementFactory.getThreadMXBean();
        return bean.getThreadAllocatedBytes(Thread.currentThread().getId());
    }

    private static void room(String what, IntConsumer call) {
        call.accept(0);
        long before = allocated();
        for (int i = 1; i < 512; i++) {
            call.accept(i);
        }
        long bytes = allocated() - before;
        if (bytes > RUN_BYTES) {
            wrong++;
            System.out.println("511 calls of " + what + " make " + bytes + " bytes");
        }
    }

    private static SignCellar grown() {
        SignCellar x = new SignCellar();
        for (int i = 0; i < 96; i++) {
            x.feed(1, i * i * 7 / 5 + i / 16 & 15);
        }
        x.make();
        for (int i = 0; i < 12; i++) {
            x.sign(65535 - i);
        }
        return x;
    }

    public static void main(String[] args) {
        long before = allocated();
        SignCellar x = grown();
        long bytes = allocated() - before;
        if (bytes > RUN_BYTES) {
            wrong++;
            System.out.println("a new object with a VERSION makes " + bytes + " bytes");
        }
        room("best", i -> x.best(0, 100 + i * 3, -1));
        room("rule", i -> x.rule(i % 6, 3, 0));
        room("cut", i -> x.cut(i % 6, 0));
        room("bit", i -> x.bit(i % 6, 0));
        room("turned", i -> x.turned(i % 6, 1, 0));
        room("size", i -> x.size(i % 6, i % 5));
        room("seek", i -> x.seek(0, i % 4, -1));
        room("span", i -> x.span(0, i % 50, 96, 3));
        room("send", i -> x.send(0, 0, i % 3));
        room("ways", i -> x.ways(i % 6));
        room("tear and restore", i -> {
            x.tear(i % 6);
            x.restore(0);
        });
        room("put and strike, FULL from 30 VERSIONS on", i -> x.put(i % 30, 0, i & 15));
        System.out.println("room: " + wrong + " calls take too much");
        if (wrong != 0) {
            System.exit(1);
        }
    }
}
