import java.lang.management.ManagementFactory;

/** All calls of one run live in one room: an object is small, and calls make none but two images. */
public final class RoomTest {
    private static final Check CHECK = new Check();

    public static void main(String[] args) {
        java.lang.management.ThreadMXBean bean = ManagementFactory.getThreadMXBean();
        if (!(bean instanceof com.sun.management.ThreadMXBean)) {
            System.out.println("this machine does not count what is made");
            return;
        }
        com.sun.management.ThreadMXBean counter = (com.sun.management.ThreadMXBean) bean;
        long answers = everyCall(new SwornLane());
        counter.getCurrentThreadAllocatedBytes();
        long start = counter.getCurrentThreadAllocatedBytes();
        SwornLane lane = new SwornLane();
        long made = counter.getCurrentThreadAllocatedBytes();
        for (int i = 0; i < 15; i++) {
            answers += everyCall(lane);
        }
        long end = counter.getCurrentThreadAllocatedBytes();
        System.out.println("an object takes " + (made - start) + " bytes, 500 calls " + (end - made)
            + " (answers sum to " + answers + ")");
        CHECK.so("an object is small", made - start < 10000);
        CHECK.so("calls make no more than two images", end - made < 2000);
        CHECK.end();
    }

    private static long everyCall(SwornLane x) {
        long sum = x.way(0, 1, true) + x.thing(0, 1) + x.person(0, 0, 0) + x.pole(true) + x.wipe();
        sum += x.say('A') + x.say('b') + x.fault() + x.judge(2) + x.behind(0, 3) + x.lies(0, 1) + x.there(2);
        sum += x.first(0) + x.done() + x.join(0, 5) + x.cut(0, 1, 1) + x.unrule() + x.rule(0, 1, 2) + x.close(3);
        sum += x.least(2, 1) + x.forget() + x.swore(0, 0, 1, true) + x.liars(3) + x.ask(0) + x.walk(0, 1);
        return sum + x.hang(5, 3, 0, 0) + x.hang(6, 3, 0, 0) + x.year(5, 99, 0) + x.image(0) + x.restore(0)
            + x.restore(1) + x.told(1) + x.told(99);
    }
}
