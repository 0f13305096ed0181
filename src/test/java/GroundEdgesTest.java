/** Promises 1 to 5, and the Terms that they use, at their bounds. */
public final class GroundEdgesTest {
    public static void main(String[] args) {
        newGround();
        newPlaces();
        newHost();
        layerBounds();
        layersFull();
        layersBehindPlaces();
        followBounds();
        followAll();
        setBounds();
        deepestAndSeason();
        countBounds();
        allFull();
        lastCall();
        Due.end("GroundEdgesTest");
    }

    // ---- promise 1: No LAYERS, PLACES; all else as the Terms tell it "at first"

    private static void newGround() {
        HowDeep x = new HowDeep();
        Due.is("new: DEEPEST", x.count(0), 4);
        Due.is("new: WORTH", x.count(1), 200);
        Due.is("new: SEASON", x.count(2), 0);
        Due.is("new: PURSE", x.count(3), 300);
        Due.is("new: LINING", x.count(4), 20);
        Due.is("new: TEXT 0", x.count(9), 1);
        Due.is("new: it is THE LAW", x.count(10), 0);
        Due.is("new: THE TAPE is empty", x.count(11), 0);
        int[] cost = {12, 18, 28, 42, 60};
        for (int yard = 1; yard <= 5; yard++) {
            Due.is("new: COST of YARD " + yard, x.asks(0, yard, 0, 0), cost[yard - 1]);
            Due.is("new: FALL of YARD " + yard, x.asks(2, yard, 0, 0), 2 * yard);
            Due.is("new: FALL of YARD " + yard + ", lined", x.asks(2, yard, 0, 1), 2 * yard);
            Due.is("new: WATER of no LAYER", x.asks(1, yard, 0, 0), -5);
        }
        Due.is("new: follow", x.follow(0, 0, 0), HowDeep.NONE);
        Due.is("new: text", x.text(), -100);
        Due.is("new: the first LAYER", x.layer(5, 5, 1), 0);
        Due.is("new: FOLLOWS", x.follow(0, 0, 9), 0);
    }

    private static void newPlaces() {
        HowDeep x = new HowDeep();
        Due.is("new: ties", x.ties(0, 1, 0), HowDeep.NONE);
        Due.is("new: dig", x.dig(0, 0), HowDeep.NONE);
        Due.is("new: fill", x.fill(0), HowDeep.NONE);
        Due.is("new: told", x.told(0, 0), -5);
        Due.is("new: think", x.think(0, 0), HowDeep.NO);
        Due.is("new: likely", x.likely(0), HowDeep.NO);
        Due.is("new: judge", x.judge(0, 0), -5);
        Due.is("new: row", x.row(0, 0), HowDeep.NO);
        Due.is("new: best", x.best(0), HowDeep.NO);
        Due.is("new: back", x.back(0), HowDeep.NONE);
        Due.is("new: index", x.index(0), -5);
        Due.is("new: next", x.next(), -1);
        Due.is("new: ruleTold", x.ruleTold(0, 0), -5);
        Due.is("new: mean", x.mean(0, 0, 0), HowDeep.NO);
        Due.is("new: right", x.right(0), -5);
        Due.is("new: goesBy", x.goesBy(0, 0), -5);
        Due.is("new: bore", x.bore(0, 0), HowDeep.NO);
        Due.is("new: far", x.far(0, 0), -5);
        Due.is("new: diviner", x.diviner(0, 0), HowDeep.NO);
        Due.is("new: believe", x.believe(0), -5);
        Due.is("new: learn", x.learn(0), HowDeep.NO);
        Due.is("new: first", x.first(), -1);
        Due.is("new: drawn", x.drawn(0, 0, 0, 0), -5);
        Due.is("new: the first RULE", x.rule(0, 0, 0), 0);
        Due.is("new: the first FARM", x.farm(0, 1), 0);
    }

    private static void newHost() {
        HowDeep x = new HowDeep();
        for (int s = 0; s < 4; s++) {
            Due.is("new: cell " + s, x.cell(s, 0, 0), -11);
            Due.is("new: place " + s, x.place(s), -11);
            Due.is("new: join " + s, x.join(s, 1), -11);
            Due.is("new: copy " + s, x.copy(s, 0, s, 0, 0), -11);
            Due.is("new: layersBy " + s, x.layersBy(s, 0, 0, 0), -11);
        }
        for (int i = 0; i <= 12; i++) Due.is("new: taken " + i, x.taken(i, 0), -11);
        Due.is("new: share", x.share(1, 0), HowDeep.BAD);
        Due.is("new: undo", x.undo(), HowDeep.STATE);
        Due.is("new: image", x.image(), 0);
        Due.is("new: undo of it", x.undo(), 0);
    }

    // ---- promise 2: BASE (0 .. 100), SALT (0 .. 9), a SIGN (0 .. 2); 5 at most; BAD; FULL; STATE

    private static void layerBounds() {
        HowDeep x = new HowDeep();
        Bounds.refused("layer: BASE", 0, 100, HowDeep.BAD, v -> x.layer(v, 5, 1));
        Bounds.refused("layer: SALT", 0, 9, HowDeep.BAD, v -> x.layer(50, v, 1));
        Bounds.refused("layer: SIGN", 0, 2, HowDeep.BAD, v -> x.layer(50, 5, v));
        Due.is("layer: none of them came", x.count(5), 0);
        Bounds.taken("layer: BASE", 0, 100, 0, 1, v -> x.layer(v, 5, 1));
        Bounds.taken("layer: SALT", 0, 9, 2, 3, v -> x.layer(50, v, 1));
        HowDeep y = new HowDeep();
        Bounds.taken("layer: SIGN", 0, 2, 0, 1, v -> y.layer(50, 5, v));
        Due.is("layer: BASE 0", x.taken(0, 6), 0);
        Due.is("layer: BASE 100", x.taken(1, 6), 100);
        Due.law(x, "cost 0;water salt*10+layer;fall 0;");
        Due.is("layer: SALT 0", x.asks(1, 1, 2, 0), 2);
        Due.is("layer: SALT 9", x.asks(1, 1, 3, 0), 93);
        Due.place(y, 0, 1);
        Due.sheet(y, 0, 2, 2);
        Due.is("layer: SIGN 2 is shown", y.judge(0, 0), -1);
        Due.sheet(y, 0, 2, 0);
        Due.is("layer: SIGN 0 is not", y.judge(0, 0), 0);
    }

    private static void layersFull() {
        HowDeep x = new HowDeep();
        for (int j = 0; j < 5; j++) Due.is("layer: number", x.layer(10 + j, j, j % 3), j);
        Due.is("layer: a sixth", x.layer(99, 9, 2), HowDeep.FULL);
        Due.is("layer: five", x.count(5), 5);
        for (int j = 0; j < 5; j++) Due.is("layer: BASE of " + j, x.taken(j, 6), 10 + j);
        Due.is("layer: WATER of the last", x.asks(1, 1, 4, 0), 14);
        Due.is("layer: there is no other", x.asks(1, 1, 5, 0), -5);
    }

    private static void layersBehindPlaces() {
        HowDeep x = new HowDeep();
        x.layer(10, 0, 0);
        Due.place(x, 1, 2);
        Due.is("layer: behind a PLACE that was refused", x.layer(20, 0, 0), 1);
        Due.place(x, 1, 2);
        Due.is("layer: behind a PLACE", x.layer(30, 0, 0), HowDeep.STATE);
        Due.is("layer: two stay", x.count(5), 2);
        x.dig(0, 0);
        x.fill(0);
        Due.is("layer: nothing is DUG, but there is a PLACE", x.layer(30, 0, 0), HowDeep.STATE);
    }

    // ---- promise 3: FOLLOWS (0 .. 9; 0 at first) that a LAYER lies below another one (or more of the same)

    private static void followBounds() {
        HowDeep x = new HowDeep();
        for (int j = 0; j < 3; j++) x.layer(0, 0, 0);
        Bounds.refused("follow: i", 0, 2, HowDeep.NONE, v -> x.follow(v, 0, 5));
        Bounds.refused("follow: j", 0, 2, HowDeep.NONE, v -> x.follow(0, v, 5));
        Bounds.refused("follow: v", 0, 9, HowDeep.BAD, v -> x.follow(0, 0, v));
        Bounds.taken("follow: i", 0, 2, 0, 0, v -> x.follow(v, 1, 9));
        Bounds.taken("follow: j", 0, 2, 0, 0, v -> x.follow(1, v, 8));
        Bounds.taken("follow: v", 0, 9, 0, 0, v -> x.follow(0, 0, v));
        Due.is("follow: 9 was taken", x.follow(0, 0, 0), 9);
        Due.is("follow: 0 was taken", x.follow(0, 0, 0), 0);
        HowDeep one = new HowDeep();
        one.layer(0, 0, 0);
        Due.is("follow: more of the only one", one.follow(0, 0, 1), 0);
        Due.is("follow: a LAYER that is not there yet", one.follow(0, 1, 1), HowDeep.NONE);
        one.layer(0, 0, 0);
        Due.is("follow: it is there now, and 0 at first", one.follow(0, 1, 1), 0);
    }

    private static void followAll() {
        HowDeep x = new HowDeep();
        for (int j = 0; j < 5; j++) x.layer(0, 0, 0);
        for (int i = 0; i < 5; i++) {
            for (int j = 0; j < 5; j++) Due.is("follow: 0 at first, " + i + " " + j, x.follow(i, j, (i + j) % 10), 0);
        }
        for (int i = 0; i < 5; i++) {
            for (int j = 0; j < 5; j++) Due.is("follow: what it was, " + i + " " + j, x.follow(i, j, 9), (i + j) % 10);
        }
        Due.place(x, 1, 0, 0, 0, 0);
        x.dig(0, 0);
        for (int j = 0; j < 5; j++) Due.is("follow: 9 of 45", x.think(0, j), 200000);
        Due.is("follow: PLACES do not matter", x.follow(4, 4, 0), 9);
    }

    // ---- promise 4: what, and the bounds of each number

    private static void setBounds() {
        HowDeep x = new HowDeep();
        int[] least = {1, 0, 0, 0, 0};
        int[] most = {5, 9999, 9, 9999, 9999};
        int[] first = {4, 200, 0, 300, 20};
        Bounds.refused("set: what", 0, 4, HowDeep.NONE, v -> x.set(v, 1));
        for (int what = 0; what < 5; what++) {
            int w = what;
            Bounds.refused("set " + what + ":", least[what], most[what], HowDeep.BAD, v -> x.set(w, v));
            Due.is("set " + what + ": refused ones change nothing", x.count(what), first[what]);
            Bounds.taken("set " + what + ":", least[what], most[what], first[what], least[what], v -> x.set(w, v));
            Due.is("set " + what + ": the most", x.count(what), most[what]);
            Due.is("set " + what + ": to what it is", x.set(what, most[what]), most[what]);
            for (int other = what + 1; other < 5; other++) {
                Due.is("set " + what + ": others stay", x.count(other), first[other]);
            }
        }
    }

    private static void deepestAndSeason() {
        for (int deepest = 1; deepest <= 5; deepest++) {
            HowDeep x = PlacesTest.plain();
            Due.place(x, 1, 1);
            x.set(0, deepest);
            for (int yard = 1; yard <= deepest; yard++) Due.is("DEEPEST " + deepest + ": YARD", x.dig(0, 1), yard);
            Due.is("DEEPEST " + deepest + ": no more", x.dig(0, 1), HowDeep.STATE);
        }
        HowDeep y = new HowDeep();
        y.layer(46, 0, 0);
        for (int season = 0; season <= 9; season++) {
            y.set(2, season);
            Due.is("SEASON " + season, y.asks(1, 1, 0, 0), 46 - 5 * season);
        }
        HowDeep z = new HowDeep();
        z.layer(44, 0, 0);
        z.set(2, 9);
        Due.is("SEASON 9 takes all: 0 at least", z.asks(1, 1, 0, 0), 0);
    }

    // ---- promise 5: 0 .. 11

    private static void countBounds() {
        HowDeep x = new HowDeep();
        Bounds.refused("count:", 0, 11, HowDeep.BAD, v -> x.count(v));
        Bounds.taken("count:", 0, 11, 4, 0, v -> x.count(v));
    }

    private static void allFull() {
        HowDeep x = new HowDeep();
        for (int j = 0; j < 5; j++) x.layer(j, j, 0);
        for (int p = 0; p < 4; p++) Due.is("full: PLACE", Due.place(x, 1, 1, 1, 1, p), p);
        for (int r = 0; r < 8; r++) Due.is("full: RULE", x.rule(5, 5, 7), r);
        for (int f = 0; f < 6; f++) Due.is("full: FARM", x.farm(99, 99), f);
        for (int t = 1; t < 6; t++) Due.is("full: TEXT", Due.text(x, "cost 1;water 1;fall 1;"), t);
        x.force(5);
        for (int i = 1; i <= 20; i++) Due.is("full: bytes", x.feed(0, 8), 8 * i);
        Due.is("full: one LAYER more", x.layer(0, 0, 0), HowDeep.FULL);
        Due.is("full: one PLACE more", Due.place(x, 1, 1, 1, 1, 1), HowDeep.FULL);
        Due.is("full: one RULE more", x.rule(0, 0, 0), HowDeep.FULL);
        Due.is("full: one FARM more", x.farm(1, 1), HowDeep.FULL);
        Due.is("full: one byte more", x.feed(0, 1), HowDeep.FULL);
        Due.is("full: one TEXT more", x.text(), HowDeep.FULL);
        int[] want = {5, 4, 8, 6, 6, 5, 160};
        for (int i = 0; i < want.length; i++) Due.is("full: count " + (5 + i), x.count(5 + i), want[i]);
    }

    /** An object is used for 512 calls. */
    private static void lastCall() {
        HowDeep x = new HowDeep();
        for (int call = 1; call < 512; call++) Due.is("call " + call, x.set(3, call), call == 1 ? 300 : call - 1);
        Due.is("call 512", x.count(3), 511);
    }
}
