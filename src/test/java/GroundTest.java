/** Promises 1 to 5: a new object, LAYERS, FOLLOWS, what is set and counted. */
public final class GroundTest {
    public static void main(String[] args) {
        newObject();
        layers();
        follows();
        settings();
        counts();
        Due.end("GroundTest");
    }

    private static void newObject() {
        HowDeep x = new HowDeep();
        int[] want = {4, 200, 0, 300, 20, 0, 0, 0, 0, 1, 0, 0};
        for (int what = 0; what < want.length; what++) Due.is("new: count " + what, x.count(what), want[what]);
        Due.is("new: cost of YARD 3", x.asks(0, 3, 0, 0), 28);
        Due.is("new: fall of YARD 3", x.asks(2, 3, 0, 0), 6);
        Due.is("new: no LAYER", x.asks(1, 1, 0, 0), -5);
        Due.is("new: no PLACE", x.told(0, 0), -5);
        for (int s = 0; s < 4; s++) Due.is("new: SHEET " + s + " is missing", x.cell(s, 0, 0), -11);
        Due.is("new: no IMAGE", x.undo(), HowDeep.STATE);
        HowDeep y = new HowDeep();
        x.layer(1, 1, 1);
        Due.is("another object has no LAYER of this one", y.count(5), 0);
    }

    private static void layers() {
        HowDeep x = new HowDeep();
        Due.is("layer: BASE -1", x.layer(-1, 0, 0), HowDeep.BAD);
        Due.is("layer: BASE 101", x.layer(101, 0, 0), HowDeep.BAD);
        Due.is("layer: SALT -1", x.layer(0, -1, 0), HowDeep.BAD);
        Due.is("layer: SALT 10", x.layer(0, 10, 0), HowDeep.BAD);
        Due.is("layer: SIGN -1", x.layer(0, 0, -1), HowDeep.BAD);
        Due.is("layer: SIGN 3", x.layer(0, 0, 3), HowDeep.BAD);
        Due.is("layer: refused ones do not count", x.count(5), 0);
        Due.is("layer: least", x.layer(0, 0, 0), 0);
        HowDeep one = new HowDeep();
        one.layer(30, 0, 0);
        Due.is("layer: its WATER at once", one.asks(1, 1, 0, 0), 30);
        Due.is("layer: most", x.layer(100, 9, 2), 1);
        Due.is("layer: its WATER", x.asks(1, 1, 1, 0), 100);
        Due.place(x, 1, 1);
        Due.is("layer: STATE behind a PLACE", x.layer(1, 1, 1), HowDeep.STATE);
        Due.is("layer: BAD ahead of STATE", x.layer(1, 1, 3), HowDeep.BAD);
        HowDeep y = new HowDeep();
        for (int i = 0; i < 5; i++) Due.is("layer: number", y.layer(i, i, 0), i);
        Due.is("layer: FULL", y.layer(1, 1, 1), HowDeep.FULL);
        Due.is("layer: BAD ahead of FULL", y.layer(101, 1, 1), HowDeep.BAD);
        Due.place(y, 1, 1, 1, 1, 1);
        Due.is("layer: FULL ahead of STATE", y.layer(1, 1, 1), HowDeep.FULL);
        Due.is("layer: five stay", y.count(5), 5);
    }

    private static void follows() {
        HowDeep x = new HowDeep();
        Due.is("follow: no LAYERS", x.follow(0, 0, 1), HowDeep.NONE);
        x.layer(0, 0, 0);
        x.layer(0, 0, 1);
        Due.is("follow: i -1", x.follow(-1, 0, 1), HowDeep.NONE);
        Due.is("follow: j -1", x.follow(0, -1, 1), HowDeep.NONE);
        Due.is("follow: i 2", x.follow(2, 0, 1), HowDeep.NONE);
        Due.is("follow: j 2", x.follow(0, 2, 1), HowDeep.NONE);
        Due.is("follow: NONE ahead of BAD", x.follow(0, 2, 10), HowDeep.NONE);
        Due.is("follow: 10", x.follow(0, 1, 10), HowDeep.BAD);
        Due.is("follow: -1", x.follow(0, 1, -1), HowDeep.BAD);
        Due.is("follow: 0 at first", x.follow(0, 1, 9), 0);
        Due.is("follow: what it was", x.follow(0, 1, 3), 9);
        Due.is("follow: the other way is another", x.follow(1, 0, 1), 0);
        x.follow(0, 0, 1);
        Due.place(x, 1, 0);
        x.dig(0, 0);
        Due.is("follow: 1 of 4 stay", x.think(0, 0), 250000);
        Due.is("follow: 3 of 4 lie below", x.think(0, 1), 750000);
        x.follow(0, 0, 0);
        x.follow(0, 1, 1);
        Due.is("follow: 1 of 1 lies below", x.think(0, 1), 1000000);
    }

    private static void settings() {
        HowDeep x = new HowDeep();
        int[] least = {1, 0, 0, 0, 0};
        int[] most = {5, 9999, 9, 9999, 9999};
        int[] first = {4, 200, 0, 300, 20};
        for (int what = 0; what < 5; what++) {
            Due.is("set " + what + ": too little", x.set(what, least[what] - 1), HowDeep.BAD);
            Due.is("set " + what + ": too much", x.set(what, most[what] + 1), HowDeep.BAD);
            Due.is("set " + what + ": at first", x.set(what, most[what]), first[what]);
            Due.is("set " + what + ": what it was", x.set(what, least[what]), most[what]);
            Due.is("set " + what + ": as it is", x.count(what), least[what]);
        }
        Due.is("set -1", x.set(-1, 1), HowDeep.NONE);
        Due.is("set 5", x.set(5, 99999), HowDeep.NONE);
        HowDeep y = new HowDeep();
        y.layer(47, 0, 0);
        y.set(2, 3);
        Due.is("set: SEASON counts at once", y.asks(1, 1, 0, 0), 32);
    }

    private static void counts() {
        HowDeep x = new HowDeep();
        x.layer(1, 1, 1);
        x.layer(2, 1, 1);
        for (int p = 0; p < 3; p++) Due.place(x, 1, 1);
        for (int r = 0; r < 4; r++) x.rule(0, 0, 0);
        for (int f = 0; f < 5; f++) x.farm(1, 1);
        Due.law(x, "cost 1;water 1;fall 1;");
        x.feed(0, 7);
        int[] want = {4, 200, 0, 300, 20, 2, 3, 4, 5, 2, 1, 7};
        for (int what = 0; what < want.length; what++) Due.is("count " + what, x.count(what), want[what]);
        Due.is("count -1", x.count(-1), HowDeep.BAD);
        Due.is("count 12", x.count(12), HowDeep.BAD);
    }
}
