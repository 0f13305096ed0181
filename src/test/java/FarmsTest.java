/** Promises 34 to 41: FARMS, WELLS that they share, LEARNING, DRAWN diggings, IMAGES. */
public final class FarmsTest {
    public static void main(String[] args) {
        farms();
        shares();
        joins();
        learns();
        firsts();
        lots();
        ends();
        images();
        sinceThen();
        Due.end("FarmsTest");
    }

    private static void farms() {
        HowDeep x = new HowDeep();
        Due.is("farm: x -1", x.farm(-1, 1), HowDeep.BAD);
        Due.is("farm: x 100", x.farm(100, 1), HowDeep.BAD);
        Due.is("farm: NEEDS 0", x.farm(0, 0), HowDeep.BAD);
        Due.is("farm: NEEDS 100", x.farm(0, 100), HowDeep.BAD);
        for (int f = 0; f < 6; f++) Due.is("farm: number", x.farm(f == 0 ? 99 : 0, f == 0 ? 99 : 1), f);
        Due.is("farm: FULL", x.farm(1, 1), HowDeep.FULL);
        Due.is("farm: BAD ahead of FULL", x.farm(100, 1), HowDeep.BAD);
        Due.is("farm: six", x.count(8), 6);
    }

    private static void shares() {
        HowDeep x = new HowDeep();
        Due.is("share: no FARMS", x.share(0, 0), HowDeep.BAD);
        Due.is("share: no such FARM", x.share(1, 0), HowDeep.BAD);
        x.farm(10, 1);
        x.farm(4, 1);
        x.farm(50, 5);
        Due.is("share: none", x.share(0, 0), HowDeep.BAD);
        Due.is("share: -1", x.share(-1, 0), HowDeep.BAD);
        Due.is("share: 8", x.share(8, 0), HowDeep.BAD);
        Due.is("share: what 2", x.share(1, 2), HowDeep.BAD);
        Due.is("share: what -1", x.share(1, -1), HowDeep.BAD);
        Due.is("share: alone", x.share(4, 0), 50);
        Due.is("share: alone one walks nowhere", x.share(4, 1), 0);
        Due.is("share: of like ones the least", x.share(3, 0), 4);
        Due.is("share: six steps", x.share(3, 1), 6);
        Due.is("share: by NEEDS", x.share(7, 0), 50);
        Due.is("share: 40 and 46", x.share(7, 1), 86);
        Due.is("share: the first alone", x.share(1, 0), 10);
        HowDeep y = new HowDeep();
        y.farm(50, 5);
        y.farm(4, 1);
        y.farm(10, 1);
        Due.is("share: the first by NEEDS", y.share(7, 0), 50);
        Due.is("share: of like ones the least, whichever came first", y.share(6, 0), 4);
        HowDeep z = new HowDeep();
        z.farm(0, 9);
        z.farm(5, 1);
        Due.is("share: at 0", z.share(3, 0), 0);
        Due.is("share: five steps to 0", z.share(3, 1), 5);
    }

    private static int join(HowDeep x, int... parts) {
        Due.sheet(x, 0, 2, parts);
        return x.join(0, 1);
    }

    private static void joins() {
        HowDeep x = new HowDeep();
        x.sheet(0, 2, 0);
        Due.is("join: no FARMS", x.join(0, 1), -1);
        x.farm(0, 10);
        x.farm(10, 10);
        Due.is("join: no SHEET", x.join(4, 1), HowDeep.BAD);
        Due.is("join: depth 0", x.join(0, 0), HowDeep.BAD);
        Due.is("join: depth 6", x.join(0, 6), HowDeep.BAD);
        Due.is("join: a missing SHEET", x.join(1, 1), -11);
        Due.is("join: depth ahead of a missing SHEET", x.join(1, 6), HowDeep.BAD);
        Due.is("join: too few", join(x, 1), HowDeep.BAD);
        Due.is("join: too many", join(x, 1, 1, 1), HowDeep.BAD);
        Due.is("join: -1", join(x, 1, -1), HowDeep.BAD);
        Due.is("join: 1000000", join(x, 1000000, 1), HowDeep.BAD);
        Due.is("join: 999999", join(x, 999999, 1), 1);
        Due.is("join: 0", join(x, 0, 0), 3);
        Due.is("join: the first would rather dig alone", join(x, 13, 5), 1);
        Due.is("join: the second", join(x, 12, 13), 2);
        Due.is("join: the least set of two", join(x, 13, 13), 1);
        Due.is("join: too little for a WELL", join(x, 12, 12), 3);
        HowDeep y = new HowDeep();
        y.farm(5, 1);
        y.farm(5, 1);
        Due.is("join: as much as it costs", join(y, 6, 6), -1);
        Due.is("join: all of them pay too much", join(y, 6, 7), 3);
        Due.is("join: all of them pay too little", join(y, 6, 5), 3);
        Due.sheet(y, 0, 2, 15, 15);
        Due.is("join: two YARDS", y.join(0, 2), -1);
        Due.sheet(y, 0, 2, 100, 60);
        Due.is("join: five YARDS", y.join(0, 5), -1);
        Due.sheet(y, 0, 2, 15, 15);
        y.set(0, 1);
        Due.is("join: beyond DEEPEST", y.join(0, 2), -1);
        y.farm(9, 2);
        // all: at 5 or 9 alike far, 8 steps and 12
        Due.is("join: three", join(y, 6, 6, 8), -1);
        Due.is("join: three, too little", join(y, 6, 6, 7), 7);
        Due.is("join: the last alone", join(y, 1, 6, 13), 4);
    }

    private static void learns() {
        HowDeep x = PlacesTest.plain();
        Due.is("learn: no PLACE", x.learn(0), HowDeep.NO);
        x.set(0, 1);
        Due.place(x, 1, 1);
        Due.is("learn: no other", x.learn(0), 0);
        Due.place(x, 1, 1);
        Due.is("learn: no TIES", x.learn(0), 0);
        x.ties(0, 1, 100);
        Due.is("learn: wholly tied", x.learn(0), -7500000);
        x.ties(0, 1, 50);
        Due.is("learn: half tied", x.learn(0), -6250000);
        x.dig(0, 3);
        x.dig(1, 1);
        Due.is("learn: as if nothing was dug", x.learn(1), -6250000);
        Due.place(x, 1, 1);
        x.ties(2, 0, 100);
        Due.is("learn: of two others", x.learn(0), -13750000);
        Due.is("learn: -1", x.learn(-1), HowDeep.NO);
        Due.is("learn: 3", x.learn(3), HowDeep.NO);
        HowDeep y = PlacesTest.plain();
        y.set(0, 1);
        y.set(1, 10);
        Due.place(y, 1, 1);
        Due.place(y, 1, 1);
        y.ties(0, 1, 100);
        Due.is("learn: it is worth nothing yet", y.learn(0), 0);
        y.set(1, 30);
        // as it is 7.5 - 10; behind SIGN 0 15 - 10, by a quarter
        Due.is("learn: one may hope", y.learn(0), 1250000);
        Due.law(y, "cost 10;water base*(yard=2)*2;fall 0;");
        // YARD 1 tells of LAYERS by half each, and has no water: two coins of a hundred
        y.set(0, 2);
        y.set(1, 100);
        // as it is: -10 + 1/2 (100 - 10) = 35; LAYER 0: 80, LAYER 1: 0
        Due.is("learn: by the WATER of YARD 1", y.learn(0), 500000L * 45 - 500000L * 35);
        HowDeep z = PlacesTest.plain();
        z.set(0, 1);
        for (int p = 0; p < 4; p++) Due.place(z, 1, 1);
        for (int p = 1; p < 4; p++) z.ties(0, p, 100);
        Due.is("learn: of three others", z.learn(0), -22500000);
    }

    private static void firsts() {
        HowDeep x = PlacesTest.plain();
        Due.is("first: none", x.first(), -1);
        x.set(0, 1);
        Due.place(x, 1, 1);
        Due.place(x, 1, 1);
        Due.is("first: of like ones the first", x.first(), 0);
        Due.place(x, 1, 0);
        Due.is("first: the most", x.first(), 2);
        x.dig(2, 3);
        Due.is("first: as if nothing was dug", x.first(), 2);
        HowDeep y = PlacesTest.plain();
        y.set(0, 1);
        Due.place(y, 0, 1);
        Due.place(y, 1, 1);
        Due.place(y, 1, 1);
        y.ties(1, 2, 100);
        // 0, and 40 less 7.5 coins
        Due.is("first: LEARNING is taken from it", y.first(), 1);
        y.set(1, 0);
        Due.is("first: nothing is worth anything", y.first(), 0);
        HowDeep z = PlacesTest.plain();
        z.set(0, 1);
        Due.place(z, 99, 99);
        Due.place(z, 50, 49);
        Due.place(z, 99, 99);
        z.ties(1, 0, 100);
        z.ties(1, 2, 100);
        // a little more water at 1, but it spoils the hope for both others
        Due.is("first: LEARNING outweighs VALUE", z.first(), 0);
    }

    /** LOTS of SEED 0: 48271, 182605794, 1291394886, 1914720637, 2078669041. */
    private static void lots() {
        HowDeep x = new HowDeep();
        x.layer(95, 0, 0);
        x.layer(95, 0, 1);
        Due.place(x, 1, 1);
        x.rule(1, 4, 0);
        Due.law(x, "cost yard;water base;fall 0;");
        drawn(x, 0, 0, 1, 1, 1);
        Due.law(x, "cost yard;water base-1;fall 0;");
        // LAYER 1 without water by 94, and nothing follows it: 86 of 100, then 37
        drawn(x, 0, 0, 3, 2, 2);
        Due.law(x, "cost yard;water base*layer-1-(yard=1)*94+(2<yard)*9;fall 0;");
        // LAYER 1: 94 no, 86 yes
        drawn(x, 0, 0, 3, 2, 2);
        x.follow(1, 0, 3);
        x.follow(1, 1, 4);
        // LAYER below by 1291394886 modulo 7 = 5: LAYER 1; 37
        drawn(x, 0, 0, 3, 2, 2);
        x.follow(1, 0, 6);
        // modulo 10 = 6: still LAYER 1
        drawn(x, 0, 0, 3, 2, 2);
        x.follow(1, 0, 7);
        x.follow(1, 1, 3);
        // modulo 10 = 6: LAYER 0, which has no water at all; it stays
        drawn(x, 0, 0, 10, -1, 4);
        Due.is("drawn: no RULE", x.drawn(1, 0, 0, 0), -5);
        Due.is("drawn: no PLACE", x.drawn(0, 1, 0, 0), -5);
        Due.is("drawn: -5 ahead of -7", x.drawn(0, 1, -1, 0), -5);
        Due.is("drawn: SEED -1", x.drawn(0, 0, -1, 0), -7);
        Due.is("drawn: SEED 100000", x.drawn(0, 0, 100000, 0), -7);
        Due.is("drawn: what 3", x.drawn(0, 0, 0, 3), -7);
        Due.is("drawn: what -1", x.drawn(0, 0, 0, -1), -7);
        x.dig(0, 3);
        drawn(x, 0, 0, 10, -1, 4);
    }

    private static void drawn(HowDeep x, int r, int seed, int costs, int water, int dug) {
        Due.is("drawn: COSTS", x.drawn(r, 0, seed, 0), costs);
        Due.is("drawn: the YARD of water", x.drawn(r, 0, seed, 1), water);
        Due.is("drawn: YARDS", x.drawn(r, 0, seed, 2), dug);
    }

    private static void ends() {
        HowDeep x = new HowDeep();
        x.layer(72, 0, 0);
        x.layer(0, 0, 1);
        Due.law(x, "cost yard;water base;fall 0;");
        Due.place(x, 0, 0);
        x.rule(1, 4, 0);
        x.rule(2, 4, 1);
        x.rule(0, 4, 0);
        // LAYER 0 without a LOT, 71 of 100
        drawn(x, 0, 0, 1, 1, 1);
        Due.law(x, "cost yard;water base-1;fall 0;");
        // 94, 86, 37
        drawn(x, 0, 0, 10, 4, 4);
        drawn(x, 1, 0, 1, -1, 1);
        drawn(x, 2, 0, 0, -1, 0);
        x.set(0, 2);
        drawn(x, 0, 0, 3, -1, 2);
        HowDeep y = new HowDeep();
        y.layer(99, 0, 0);
        y.layer(0, 0, 1);
        y.follow(1, 0, 1);
        y.follow(1, 1, 9);
        Due.law(y, "cost yard;water base;fall 0;");
        Due.place(y, 0, 1);
        y.rule(1, 4, 0);
        Due.is("drawn: by the last SEED", y.drawn(0, 0, 99999, 0) > 0 ? 1 : 0, 1);
        HowDeep z = new HowDeep();
        z.layer(72, 0, 0);
        z.layer(94, 0, 1);
        Due.law(z, "cost yard;water base;fall 0;");
        Due.place(z, 0, 1);
        z.set(0, 5);
        z.rule(1, 5, 0);
        // by a LOT LAYER 1, though there is no other; then 94, and 86
        drawn(z, 0, 0, 3, 2, 2);
        z.follow(1, 0, 1);
        // by a LOT again LAYER 0: 37
        drawn(z, 0, 0, 3, 2, 2);
        Due.law(z, "cost yard;water 0;fall 0;");
        drawn(z, 0, 0, 15, -1, 5);
        cantBe();
    }

    /** SEED 0 draws LAYERS 1, 2 and 3, of which so few PARTS are THOUGHT that they are cut to none. */
    private static void cantBe() {
        HowDeep x = new HowDeep();
        int[][] layers = {{0, 0}, {94, 0}, {37, 0}, {83, 2}, {0, 0}};
        for (int[] l : layers) x.layer(l[0], 0, l[1]);
        int[][] follows = {{9, 0, 0, 0, 0}, {3, 9, 1, 0, 9}, {0, 7, 9, 1, 8}, {0, 0, 0, 9, 0}, {0, 0, 0, 0, 9}};
        for (int i = 0; i < 5; i++) for (int j = 0; j < 5; j++) x.follow(i, j, follows[i][j]);
        Due.law(x, "cost yard;water base;fall 0;");
        Due.place(x, 76, 1, 0, 0, 76);
        x.set(0, 5);
        x.rule(1, 5, 0);
        drawn(x, 0, 0, 6, -1, 3);
        x.dig(0, 0);
        x.dig(0, 0);
        Due.is("drawn: LAYER 2 was THOUGHT of", x.told(0, 0), 2);
        Due.is("drawn: LAYER 3 was not", x.think(0, 3), 0);
    }

    private static void images() {
        HowDeep x = PlacesTest.plain();
        Due.is("undo: STATE", x.undo(), HowDeep.STATE);
        Due.place(x, 1, 1);
        Due.place(x, 2, 1);
        x.dig(0, 0);
        x.dig(1, 3);
        x.follow(0, 1, 4);
        x.ties(0, 1, 33);
        Due.is("image: how many PLACES", x.image(), 2);
        int[] other = {2, 9, 9, 0, 0};
        for (int what = 0; what < 5; what++) x.set(what, other[what]);
        x.follow(0, 1, 9);
        x.follow(1, 1, 9);
        x.dig(0, 1);
        x.fill(1);
        x.ties(0, 1, 50);
        x.force(0);
        Due.text(x, "cost 1;water 1;fall 1;");
        x.rule(1, 1, 1);
        x.farm(1, 1);
        x.feed(1, 3);
        Due.sheet(x, 0, 2, 5);
        Due.is("undo: how many PLACES", x.undo(), 2);
        int[] want = {4, 200, 0, 300, 20, 2, 2, 1, 1, 3, 1, 3};
        for (int what = 0; what < want.length; what++) Due.is("undo: count " + what, x.count(what), want[what]);
        Due.is("undo: COST by THE LAW", x.asks(0, 2, 0, 0), 10);
        Due.is("undo: DUG", x.told(0, 0), 1);
        Due.is("undo: the SIGN", x.told(0, 2), 0);
        Due.is("undo: water", x.told(1, 1), 1);
        Due.is("undo: all that follows LAYER 0 is LAYER 1", x.think(0, 1), 1000000);
        Due.is("undo: FOLLOWS", x.follow(0, 1, 0), 4);
        Due.is("undo: FOLLOWS of another", x.follow(1, 1, 0), 0);
        Due.is("undo: TIES", x.ties(1, 0, 0), 33);
        Due.is("undo: the SHEET stays", x.sheet(0, -1, 0), 1);
        Due.is("undo: again", x.undo(), 2);
        Due.is("undo: TIES again", x.ties(0, 1, 0), 33);
        x.fill(0);
        x.dig(0, 2);
        Due.is("undo: once more", x.undo(), 2);
        Due.is("undo: the SIGN that was there", x.told(0, 2), 0);
        x.fill(0);
        x.dig(0, 2);
        x.ties(0, 1, 7);
        x.image();
        x.fill(0);
        x.dig(0, 1);
        x.ties(0, 1, 8);
        x.undo();
        Due.is("image: a later one counts", x.ties(0, 1, 0), 7);
        Due.is("image: its SIGN", x.told(0, 2), 2);
        HowDeep y = new HowDeep();
        for (int j = 0; j < 5; j++) y.layer(1, 1, 1);
        y.follow(4, 4, 9);
        for (int p = 0; p < 4; p++) Due.place(y, 1, 1, 1, 1, 1);
        y.ties(3, 2, 99);
        Due.is("image: all PLACES", y.image(), 4);
        y.follow(4, 4, 8);
        y.ties(2, 3, 98);
        Due.is("undo: all PLACES", y.undo(), 4);
        Due.is("undo: the last LAYER", y.follow(4, 4, 0), 9);
        Due.is("undo: the last PLACE", y.ties(2, 3, 0), 99);
    }

    private static void sinceThen() {
        HowDeep x = new HowDeep();
        x.layer(50, 0, 0);
        Due.is("image: no PLACES", x.image(), 0);
        x.layer(20, 0, 1);
        x.follow(0, 0, 5);
        x.follow(0, 1, 3);
        Due.place(x, 7, 8);
        Due.place(x, 7, 8);
        x.ties(0, 1, 40);
        x.dig(0, 1);
        Due.is("undo: two PLACES came", x.undo(), 2);
        Due.is("undo: LAYERS stay", x.count(5), 2);
        Due.is("undo: a PLACE stays", x.told(1, 8), 8);
        Due.is("undo: what was DUG at a PLACE that came stays", x.told(0, 0), 1);
        Due.is("undo: TIES of PLACES that came stay", x.ties(0, 1, 0), 40);
        Due.is("undo: FOLLOWS of a LAYER that was there", x.follow(0, 0, 0), 0);
        Due.is("undo: FOLLOWS of a LAYER that came stay", x.follow(0, 1, 0), 3);
    }
}
