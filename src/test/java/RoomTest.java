import java.lang.management.ManagementFactory;

/** All calls of a run share one room: what is made must be made with the object, not by its calls. */
public final class RoomTest {
    private static final Checks CHECKS = new Checks();

    public static void main(String[] args) {
        com.sun.management.ThreadMXBean bean = (com.sun.management.ThreadMXBean) ManagementFactory.getThreadMXBean();
        long id = Thread.currentThread().getId();
        // the first run loads classes and the constants' texts
        run(new BasketEnvoys());
        long start = bean.getThreadAllocatedBytes(id);
        BasketEnvoys x = new BasketEnvoys();
        long made = bean.getThreadAllocatedBytes(id) - start;
        start = bean.getThreadAllocatedBytes(id);
        run(x);
        long byCalls = bean.getThreadAllocatedBytes(id) - start;
        System.out.println("the object: " + made + " bytes, all its calls: " + byCalls + " bytes");
        CHECKS.due("the object is small", made < 200000, true);
        CHECKS.due("calls make nothing", byCalls < 20000, true);
        CHECKS.finish();
    }

    private static void run(BasketEnvoys x) {
        for (int i = 0; i < 10; i++) {
            x.power(50 + i);
        }
        for (int i = 0; i < 14; i++) {
            x.mute(i % 10, i % 10, i % 2 == 0);
            for (int t = 0; t < 8; t++) {
                x.act(2, i, (i + t) % 12);
            }
            x.act(0, i, i % 10);
        }
        for (int i = 0; i < 12; i++) {
            x.promise(i % 8, (i + 1) % 8, i % 4);
            x.border(i % 8, (i + 3) % 8);
            x.cloth(0, i % 10);
            x.cloth(1, i % 7);
            x.load(1 + i, i);
            x.count(1 + i);
            x.interpreter(12340);
            x.shows(i);
            x.hears(i);
            x.hat(i, 255);
        }
        for (int i = 0; i < 5; i++) {
            tellLaw(x);
            x.image(true);
            x.days(60);
            x.goes(60, 0);
            x.peace(i);
            x.undo();
            x.image(false);
            x.alike(0);
            x.lightest(0, 0);
            x.lightest(0, 1);
            x.heard(0, 0);
            x.heard(0, 1);
            x.signs();
            x.pins(20, 1);
            x.tables(i);
            x.stand(12, 3, 0);
            x.stand(12, 3, 2);
            x.sent(6, 1);
            x.carried(100, 1);
            x.kept(0);
            x.kept(2);
            x.hats(8);
            x.map(5);
            x.map(-1);
            x.cloths(1);
            x.cloths(2);
            x.word(-1);
            x.silence(7, 6, 5, true);
        }
    }

    // "nods 900 when day>0;" as five numbers, then the text
    private static void tellLaw(BasketEnvoys x) {
        x.feed(0x6e6f6473, 0x20393030, 0x20776865, 0x6e206461, 0x793e303b);
        CHECKS.due("the law", x.text(0), 1);
    }
}
