import java.lang.management.ManagementFactory;

/** What 512 of the dearest calls make stays far below the room that a run has. */
public final class RoomTest {
    private static final Checks C = new Checks();
    // 7.3 million fields and elements: a byte each, at the least.
    private static final long MOST_BYTES = 7300000L;

    public static void main(String[] args) {
        made("law, image, back", RoomTest::lawsAndImages);
        made("orders", RoomTest::ordersOf);
        made("home", RoomTest::homesOf);
        made("on paper", RoomTest::papersOf);
        made("objects", RoomTest::objectsOf);
        C.finish();
    }

    private static void made(String what, Runnable run) {
        run.run();
        com.sun.management.ThreadMXBean bean = (com.sun.management.ThreadMXBean) ManagementFactory.getThreadMXBean();
        long id = Thread.currentThread().getId();
        long from = bean.getThreadAllocatedBytes(id);
        run.run();
        long bytes = bean.getThreadAllocatedBytes(id) - from;
        System.out.println(what + ": " + bytes + " bytes");
        C.ok(what + " make " + bytes + " bytes", bytes < MOST_BYTES);
    }

    private static TownSundays seven() {
        return Checks.joined(5, 1, 2, 3, 4, 5, 6, 7);
    }

    private static void lawsAndImages() {
        TownSundays x = seven();
        x.image(0);
        for (int i = 0; i < 18; i++) {
            Checks.law(x, Checks.times("bars if own = 1;", 11) + "likes 1" + Checks.times("+1", 23));
            x.image(1);
            x.back(0);
        }
    }

    private static void ordersOf() {
        TownSundays x = seven();
        for (int i = 0; i < 18; i++) {
            Checks.orders(x, Checks.times("swap 0 with 1 times 20;", 11) + "swap 0 with 0");
        }
    }

    private static void homesOf() {
        TownSundays x = seven();
        x.round(0, 1, 2);
        x.round(3, 4, 5);
        for (int i = 0; i < 150; i++) {
            x.swap(0, i % 5 + 1);
            x.home(-1);
            x.home(i % 6);
        }
    }

    private static void papersOf() {
        TownSundays x = seven();
        Checks.rule(x, "likes town * sunday % 7");
        for (int i = 0; i < 60; i++) {
            x.mostLiked(i % 7);
            x.anew(i % 7);
            x.newOnes();
            x.market(i % 7);
            x.bargains(0);
            x.centuries(i, 60);
            x.few(20, 99);
            x.ask(0);
        }
    }

    private static void objectsOf() {
        for (int i = 0; i < 120; i++) seven();
    }
}
