import java.lang.management.ManagementFactory;

/** All calls of a run live in one room: an object is small, and no call makes anything that stays or goes. */
public final class RoomTest {
    private static final com.sun.management.ThreadMXBean BEAN =
        (com.sun.management.ThreadMXBean) ManagementFactory.getThreadMXBean();

    public static void main(String[] args) {
        long self = Thread.currentThread().getId();
        new HowDeep();
        long before = BEAN.getThreadAllocatedBytes(self);
        HowDeep x = new HowDeep();
        long one = BEAN.getThreadAllocatedBytes(self) - before;
        Due.holds("an object takes little: " + one, one > 0 && one < 60000);
        HowDeep[] all = new HowDeep[4];
        for (int i = 0; i < all.length; i++) {
            all[i] = new HowDeep();
            fill(all[i]);
            dearest(all[i]);
        }
        before = BEAN.getThreadAllocatedBytes(self);
        for (int turn = 0; turn < 10; turn++) for (HowDeep each : all) dearest(each);
        long made = BEAN.getThreadAllocatedBytes(self) - before;
        Due.holds("800 calls make next to nothing: " + made, made < 4096);
        Due.end("RoomTest");
    }

    private static void fill(HowDeep x) {
        for (int j = 0; j < 5; j++) x.layer(20 * j, j, j % 3);
        for (int i = 0; i < 5; i++) for (int j = 0; j < 5; j++) x.follow(i, j, (i + j) % 7);
        x.set(0, 5);
        for (int p = 0; p < 4; p++) Due.place(x, 1, p, 3, 4, 5);
        x.ties(0, 1, 50);
        for (int r = 0; r < 8; r++) x.rule(3, 5, 0);
        for (int f = 0; f < 6; f++) x.farm(f * 9, f + 1);
    }

    private static void dearest(HowDeep x) {
        x.next();
        x.first();
        x.right(0);
        x.far(0, 0);
        x.believe(0);
        x.learn(0);
        x.index(1);
        x.mean(0, 0, 0);
        x.drawn(0, 0, 5, 0);
        x.sheet(0, 2, 40);
        x.copy(0, 0, 0, 1, 39);
        x.sheet(1, 2, 6);
        x.join(1, 3);
        x.image();
        x.undo();
        x.feed(7165072474763374651L, 8);
        x.text();
        x.force(0);
        x.layersBy(0, 2, 0, 5);
        x.judge(0, 1);
    }
}
