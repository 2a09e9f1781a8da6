import java.lang.management.ManagementFactory;

/** All calls of a run share one room: the calls themselves make no objects, a new object few. */
public final class RoomTest {
    private final Due due = new Due();
    private final com.sun.management.ThreadMXBean threads =
        (com.sun.management.ThreadMXBean) ManagementFactory.getThreadMXBean();

    public static void main(String[] args) {
        new RoomTest().run();
    }

    private long allocated() {
        return threads.getThreadAllocatedBytes(Thread.currentThread().getId());
    }

    private void run() {
        due.of("the room");
        allCalls(new EatenMaps());
        long before = allocated();
        EatenMaps[] maps = new EatenMaps[10];
        for (int i = 0; i < maps.length; i++) {
            maps[i] = new EatenMaps();
        }
        long made = (allocated() - before) / maps.length;
        due.is("a new object of at most 8 KiB, it is " + made, 1, made <= 8192 ? 1 : 0);
        before = allocated();
        for (int i = 0; i < 100; i++) {
            allCalls(maps[i % maps.length]);
        }
        long more = allocated() - before;
        due.is("calls make nothing, they made " + more, 1, more <= 4096 ? 1 : 0);
        due.end();
    }

    private static void allCalls(EatenMaps maps) {
        for (int i = 0; i < 3; i++) {
            maps.moth(i, 12 * i, i);
            maps.land(i, i);
            maps.camphor(i + 5, i);
            maps.spool(i + 1, 50);
            maps.seen(i, i);
            maps.say('.');
        }
        maps.fault();
        maps.judge(0);
        maps.behind(0, 0);
        maps.flies(0, 0);
        maps.then(3);
        maps.road(0, 24);
        maps.whole(0, 24, 1);
        maps.camphored(22, 1);
        maps.darned(0);
        maps.sheet(1111, 0);
        maps.began(-1);
        maps.ask(0);
        maps.forget();
        maps.folds(60, 1);
        maps.coffee(9, 4, 3, 3, 16, 5, 0);
        maps.year(77, 99, 0);
        maps.image(0);
        maps.done();
        maps.wipe();
        maps.restore(0);
        maps.told(3);
    }
}
