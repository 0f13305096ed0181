/** Promises 34 to 41: FARMS, WELLS, LEARNING, DRAWN diggings, IMAGES, at their bounds. */
public final class FarmsEdgesTest {
    public static void main(String[] args) {
        farmBounds();
        farmsFull();
        shareBounds();
        shareLike();
        joinBounds();
        joinSizes();
        joinNumbers();
        joinCosts();
        joinAll();
        learnBounds();
        learnTies();
        learnCut();
        firstLike();
        drawnBounds();
        drawnLots();
        drawnWater();
        drawnFirst();
        drawnEnds();
        imageBounds();
        undoEach();
        undoWater();
        undoNothingElse();
        undoSince();
        Due.end("FarmsEdgesTest");
    }

    // ---- promise 34: x (0 .. 99), NEEDS (1 .. 99), 6 at most; BAD; FULL

    private static void farmBounds() {
        HowDeep x = new HowDeep();
        Bounds.refused("farm: x", 0, 99, HowDeep.BAD, v -> x.farm(v, 5));
        Bounds.refused("farm: NEEDS", 1, 99, HowDeep.BAD, v -> x.farm(5, v));
        Due.is("farm: none came", x.count(8), 0);
        Bounds.taken("farm: x", 0, 99, 0, 1, v -> x.farm(v, 5));
        Bounds.taken("farm: NEEDS", 1, 99, 2, 3, v -> x.farm(50, v));
        Due.is("farm: at 0", x.share(1, 0), 0);
        Due.is("farm: at 99", x.share(2, 0), 99);
        Due.is("farm: NEEDS 1, 50 off from NEEDS 5", x.share(5, 1), 50);
        Due.is("farm: NEEDS 99, 50 off NEEDS 5", x.share(9, 1), 250);
    }

    private static void farmsFull() {
        HowDeep x = new HowDeep();
        for (int f = 0; f < 6; f++) {
            Due.is("farm: number", x.farm(10 * f, 1), f);
            Due.is("farm: count", x.count(8), f + 1);
        }
        Due.is("farm: a seventh", x.farm(1, 1), HowDeep.FULL);
        Due.is("farm: six stay", x.count(8), 6);
        for (int f = 0; f < 6; f++) Due.is("farm: x of " + f, x.share(1 << f, 0), 10 * f);
        Due.is("farm: no seventh", x.share(64, 0), HowDeep.BAD);
    }

    // ---- promise 35: some FARMS (bits); BAD; of like ones the least

    private static void shareBounds() {
        HowDeep x = new HowDeep();
        for (int set = -1; set <= 64; set++) Due.is("share: no FARMS, " + set, x.share(set, 0), HowDeep.BAD);
        for (int n = 1; n <= 6; n++) {
            x.farm(10 * n, 1);
            int all = (1 << n) - 1;
            Bounds.refused("share: " + n + " FARMS, set", 1, all, HowDeep.BAD, v -> x.share(v, 0));
            Bounds.refused("share: how far, set", 1, all, HowDeep.BAD, v -> x.share(v, 1));
            Bounds.refused("share: what", 0, 1, HowDeep.BAD, v -> x.share(all, v));
            Due.is("share: the first alone", x.share(1, 0), 10);
            Due.is("share: all of them", x.share(all, 0), 10 * ((n + 1) / 2));
            Due.is("share: how far all walk", x.share(all, 1), 10 * (n * n / 4));
        }
    }

    private static void shareLike() {
        HowDeep x = new HowDeep();
        x.farm(99, 99);
        x.farm(0, 99);
        Due.is("share: anywhere between 0 and 99", x.share(3, 0), 0);
        Due.is("share: it is as far", x.share(3, 1), 9801);
        x.farm(40, 1);
        Due.is("share: not any more", x.share(7, 0), 40);
        Due.is("share: to 40", x.share(7, 1), 9801);
        x.farm(50, 1);
        Due.is("share: anywhere between 40 and 50", x.share(15, 0), 40);
        Due.is("share: those two alone", x.share(12, 0), 40);
        x.farm(50, 1);
        Due.is("share: rather at 50", x.share(31, 0), 50);
        Due.is("share: two at one place", x.share(24, 0), 50);
        Due.is("share: walk nowhere", x.share(24, 1), 0);
    }

    // ---- promise 36: BAD: SHEET, depth; -11; BAD: its size, a number; -1: neither

    private static void joinBounds() {
        HowDeep x = new HowDeep();
        x.farm(5, 5);
        for (int s = 0; s < 4; s++) Due.sheet(x, s, s % 2, s == 3 ? 13 : 12);
        Bounds.refused("join: SHEET", 0, 3, HowDeep.BAD, v -> x.join(v, 1));
        Bounds.refused("join: depth", 1, 5, HowDeep.BAD, v -> x.join(0, v));
        Bounds.taken("join: SHEET", 0, 3, -1, 1, v -> x.join(v, 1));
        Bounds.taken("join: depth", 1, 5, -1, 1, v -> x.join(0, v));
        x.sheet(0, -1, 0);
        Due.is("join: a SHEET that went", x.join(0, 1), -11);
        Bounds.refused("join: BAD ahead of -11, depth", 1, 5, HowDeep.BAD, v -> x.join(0, v));
    }

    private static void joinSizes() {
        HowDeep x = new HowDeep();
        for (int n = 0; n <= 6; n++) {
            for (int size : new int[] {0, n - 1, n + 1, 7, 40}) {
                if (size < 0 || size == n) continue;
                x.sheet(0, 2, size);
                Due.is("join: " + n + " FARMS, a SHEET of " + size, x.join(0, 1), HowDeep.BAD);
            }
            x.sheet(0, 2, n);
            Due.is("join: " + n + " FARMS, nothing is paid", x.join(0, 1), n == 0 ? -1 : (1 << n) - 1);
            if (n < 6) x.farm(7, 7);
        }
    }

    private static void joinNumbers() {
        for (int at = 0; at < 6; at++) {
            HowDeep x = new HowDeep();
            for (int f = 0; f < 6; f++) x.farm(50, 1);
            x.sheet(0, 2, 6);
            int i = at;
            Bounds.refused("join: part " + at, 0, 999999, HowDeep.BAD, v -> {
                x.cell(0, i, v);
                return x.join(0, 1);
            });
            Bounds.taken("join: part " + at, 0, 999999, 63, 1 << at, v -> {
                x.cell(0, i, v);
                return x.join(0, 1);
            });
        }
        HowDeep y = new HowDeep();
        y.farm(0, 1);
        int[][] cut = {{0, 127, 1}, {0, 128, -2}, {0, 256, 1}, {1, 32767, 1}, {1, 32768, -2}, {2, 32768, 1}};
        for (int[] c : cut) {
            Due.sheet(y, 0, c[0], c[1]);
            Due.is("join: sort " + c[0] + ", " + c[1], y.join(0, 1), c[2]);
        }
    }

    /** More than a WELL of its own costs; less than it costs. */
    private static void joinCosts() {
        int[] costs = {0, 12, 30, 58, 100, 160};
        HowDeep x = new HowDeep();
        x.farm(33, 3);
        x.set(0, 1);
        for (int depth = 1; depth <= 5; depth++) {
            for (int more = -1; more <= 1; more++) {
                Due.sheet(x, 0, 2, costs[depth] + more);
                Due.is("join: " + depth + " YARDS, and " + more, x.join(0, depth), more == 0 ? -1 : 1);
            }
        }
        Due.law(x, "cost 0;water 0;fall 0;");
        Due.sheet(x, 0, 2, 0);
        Due.is("join: nothing for nothing", x.join(0, 5), -1);
        Due.law(x, "cost 999;water 0;fall 0;");
        Due.sheet(x, 0, 2, 4995);
        Due.is("join: five YARDS of 999", x.join(0, 5), -1);
        Due.sheet(x, 0, 2, 4996);
        Due.is("join: a coin more", x.join(0, 5), 1);
    }

    private static void joinAll() {
        HowDeep x = new HowDeep();
        for (int f = 0; f < 6; f++) x.farm(50, 1);
        int[][] parts = {{2, 2, 2, 2, 2, 2}, {2, 2, 2, 2, 2, 1}, {2, 2, 2, 2, 2, 3}, {0, 0, 0, 0, 0, 12}, {0, 0, 0, 0, 0, 13},
            {0, 0, 0, 0, 6, 6}, {0, 0, 0, 0, 7, 6}, {12, 12, 0, 0, 0, 0}, {12, 0, 12, 0, 0, 0}, {0, 12, 1, 13, 0, 0}};
        int[] want = {-1, 63, 63, -1, 32, -1, 48, 3, 5, 6};
        for (int i = 0; i < parts.length; i++) {
            Due.sheet(x, 0, 2, parts[i]);
            Due.is("join: " + java.util.Arrays.toString(parts[i]), x.join(0, 1), want[i]);
        }
        HowDeep y = new HowDeep();
        y.farm(10, 1);
        y.farm(20, 1);
        // alone 12 each, together 22: more than that can't stay, if both pay no more than 12
        int[][] two = {{11, 11}, {10, 12}, {12, 10}, {12, 11}, {11, 10}, {12, 9}, {9, 13}, {13, 9}, {0, 13}, {13, 13}};
        int[] due = {-1, -1, -1, 3, 3, 3, 2, 1, 2, 1};
        for (int i = 0; i < two.length; i++) {
            Due.sheet(y, 0, 2, two[i]);
            Due.is("join: two, " + two[i][0] + " and " + two[i][1], y.join(0, 1), due[i]);
        }
    }

    // ---- promise 37: NO: no such PLACE

    private static void learnBounds() {
        HowDeep x = PlacesTest.plain();
        x.set(0, 1);
        Due.is("learn: no PLACES", x.learn(0), HowDeep.NO);
        Due.place(x, 1, 1);
        Due.is("learn: no other PLACE", x.learn(0), 0);
        for (int p = 1; p < 4; p++) Due.place(x, 1, 1);
        x.ties(3, 0, 100);
        Bounds.refused("learn: p", 0, 3, HowDeep.NO, p -> x.learn(p));
        Bounds.taken("learn: p", 0, 3, -7500000, -7500000, p -> x.learn(p));
        Due.is("learn: no TIES", x.learn(1), 0);
        x.dig(0, 3);
        x.dig(3, 2);
        Bounds.taken("learn: as if nothing was dug, p", 0, 3, -7500000, -7500000, p -> x.learn(p));
    }

    /** Of each LAYER (its PARTS times (100 less TIES) and p's PARTS, DRY, MADE WHOLE, times TIES) by 100. */
    private static void learnTies() {
        HowDeep x = PlacesTest.plain();
        x.set(0, 1);
        Due.place(x, 1, 0);
        Due.place(x, 0, 1);
        int[] tied = {0, 1, 20, 21, 99, 100};
        for (int t : tied) {
            x.ties(0, 1, t);
            // p is DRY by half with SIGN 0: LAYER 0 is then t of 100 at the other one, WET by half
            Due.is("learn: SIGN 0 alone, TIES " + t, x.learn(0), Math.max(0, 500000L * t - 5000000));
            // p is DRY with SIGN 1 for sure: LAYER 0 is less by t of 100 there
            Due.is("learn: SIGN 1 alone, TIES " + t, x.learn(1), Math.max(0, 1000000L * (100 - t) - 10000000) - 90000000);
        }
        HowDeep wet = new HowDeep();
        wet.layer(100, 0, 0);
        Due.place(wet, 1);
        Due.place(wet, 1);
        wet.ties(0, 1, 100);
        Due.is("learn: it can't be DRY at all", wet.learn(0), 0);
    }

    /** 66666800 * 166667 and -23333200 * 666666, by 1000000, are cut one by one, the second towards 0. */
    private static void learnCut() {
        HowDeep x = PlacesTest.plain();
        x.set(0, 1);
        Due.place(x, 1, 2);
        Due.place(x, 1, 2);
        x.ties(0, 1, 100);
        Due.is("learn: cut", x.learn(0), 11111155 - 15555451);
        HowDeep y = new HowDeep();
        y.layer(90, 0, 0);
        y.layer(0, 0, 0);
        Due.law(y, "cost 0;water base;fall 0;");
        Due.place(y, 1, 3);
        Due.place(y, 1, 2);
        y.ties(0, 1, 70);
        y.set(0, 1);
        // 25000 of 775000 are 32258; (333333 * 30 and 32258 * 70) by 100 are 122580, which are wet by 110322
        Due.is("learn: cut as one sum", y.learn(0), (110322 - 299999) * 200L * 775 / 1000);
    }

    // ---- promise 38: of like ones the first; -1: there is none

    private static void firstLike() {
        HowDeep x = PlacesTest.plain();
        x.set(0, 1);
        Due.is("first: no PLACES", x.first(), -1);
        for (int p = 0; p < 3; p++) {
            Due.place(x, 0, 1);
            Due.is("first: nothing is worth anything", x.first(), 0);
        }
        Due.place(x, 1, 4);
        Due.is("first: the last", x.first(), 3);
        x.ties(3, 1, 100);
        // by a tenth it shows SIGN 0, and then 1 is worth 90 coins
        Due.is("first: what it teaches", x.learn(3), 9000000);
        Due.is("first: still the last", x.first(), 3);
        x.dig(3, 2);
        Due.is("first: as if nothing was dug", x.first(), 3);
        HowDeep y = PlacesTest.plain();
        y.set(0, 1);
        for (int p = 0; p < 3; p++) Due.place(y, 1, 1);
        y.ties(0, 1, 100);
        y.ties(0, 2, 100);
        y.ties(1, 2, 100);
        Due.is("first: three alike", y.first(), 0);
        y.ties(0, 2, 0);
        Due.is("first: LEARNING is least from 1, of the others the first", y.first(), 0);
        y.ties(1, 2, 0);
        Due.is("first: none from 2, which is more than below 0", y.first(), 2);
        y.ties(0, 1, 0);
        Due.is("first: none from any", y.first(), 0);
        y.set(1, 0);
        Due.is("first: water is worth nothing", y.first(), 0);
    }

    // ---- promise 39: SEED (0 .. 99999), what; -5; -7

    private static void drawnBounds() {
        HowDeep x = new HowDeep();
        x.layer(50, 0, 0);
        Due.place(x, 1);
        Due.place(x, 1);
        x.rule(1, 4, 0);
        x.rule(0, 4, 0);
        Bounds.refused("drawn: r", 0, 1, -5, v -> x.drawn(v, 0, 0, 0));
        Bounds.refused("drawn: p", 0, 1, -5, v -> x.drawn(0, v, 0, 0));
        Bounds.refused("drawn: SEED", 0, 99999, -7, v -> x.drawn(0, 0, v, 0));
        Bounds.refused("drawn: what", 0, 2, -7, v -> x.drawn(0, 0, 0, v));
        // LOTS of SEED 0 are 71, 94, 86, 37 modulo 100, of SEED 99999 6, 59, 55, 33; the first one is FIRST's
        Bounds.taken("drawn: SEED", 0, 99999, 58, 58, v -> x.drawn(0, 0, v, 0));
        Bounds.taken("drawn: r", 0, 1, 3, 0, v -> x.drawn(v, 0, 0, 2));
        Bounds.taken("drawn: p", 0, 1, 3, 3, v -> x.drawn(0, v, 0, 2));
        Bounds.taken("drawn: what", 0, 2, 58, 3, v -> x.drawn(0, 0, 0, v));
        Due.is("drawn: the YARD that has water", x.drawn(0, 0, 0, 1), 3);
        Due.is("drawn: none is dug", x.drawn(1, 0, 0, 1), -1);
        x.dig(0, 3);
        Due.is("drawn: from YARD 1 on, though there is water", x.drawn(0, 0, 0, 2), 3);
        x.fill(0);
        x.dig(0, 1);
        Due.is("drawn: from YARD 1 on, though it CAN'T BE", x.drawn(0, 0, 0, 2), 3);
    }

    /** Which YARD has water, where YARD k is WET by so much that its LOT modulo 100 is just above or below. */
    private static void drawnLots() {
        int[] seeds = {0, 99999};
        int[][] lots = {{94, 86, 37, 41, 83}, {59, 55, 33, 35, 4}};
        for (int i = 0; i < 2; i++) {
            for (int yard = 1; yard <= 5; yard++) {
                for (int more = 0; more <= 1; more++) {
                    HowDeep x = new HowDeep();
                    x.layer(lots[i][yard - 1] + more, 0, 0);
                    Due.law(x, "cost yard;water base*(yard=" + yard + ");fall 0;");
                    Due.place(x, 1);
                    x.set(0, 5);
                    x.rule(1, 5, 0);
                    String lot = "drawn: SEED " + seeds[i] + ", YARD " + yard + ", WET by " + (lots[i][yard - 1] + more);
                    Due.is(lot, x.drawn(0, 0, seeds[i], 1), more == 0 ? -1 : yard);
                    Due.is(lot + ": YARDS", x.drawn(0, 0, seeds[i], 2), more == 0 ? 5 : yard);
                    int dug = more == 0 ? 5 : yard;
                    Due.is(lot + ": COSTS", x.drawn(0, 0, seeds[i], 0), dug * (dug + 1) / 2);
                }
            }
        }
    }

    private static void drawnWater() {
        for (int seed = 0; seed < 40; seed++) {
            HowDeep x = new HowDeep();
            x.layer(100, 0, 0);
            x.layer(0, 0, 1);
            Due.place(x, 1, 0);
            Due.place(x, 0, 1);
            x.rule(1, 4, 0);
            Due.is("drawn: WET by 100", x.drawn(0, 0, seed, 1), 1);
            Due.is("drawn: WET by 0", x.drawn(0, 1, seed, 1), -1);
        }
    }

    /** The first one whose FIRST, with all ahead of it, is above the LOT modulo all; LAYER 0 without a LOT, if these are 0. */
    private static void drawnFirst() {
        // 48271 modulo 10 is 1, modulo 3 it is 1, modulo 100 it is 71
        int[][] first = {{1, 9}, {2, 8}, {0, 10}, {10, 0}, {1, 2}, {2, 1}, {71, 29}, {72, 28}};
        int[] layer = {1, 0, 1, 0, 1, 0, 1, 0};
        HowDeep x = new HowDeep();
        x.layer(100, 0, 0);
        x.layer(0, 0, 1);
        x.rule(1, 1, 0);
        for (int half = 0; half < 2; half++) {
            HowDeep y = new HowDeep();
            y.layer(100, 0, 0);
            y.layer(0, 0, 1);
            y.rule(1, 1, 0);
            for (int i = 0; i < 4; i++) {
                int[] f = first[4 * half + i];
                Due.place(y, f);
                Due.is("drawn: FIRST " + f[0] + " and " + f[1], y.drawn(0, i, 0, 1), layer[4 * half + i] == 0 ? 1 : -1);
            }
        }
        Due.place(x, 0, 0);
        Due.is("drawn: FIRST all 0", x.drawn(0, 0, 0, 1), 1);
        HowDeep z = new HowDeep();
        z.layer(72, 0, 0);
        Due.place(z, 0);
        z.rule(1, 1, 0);
        Due.is("drawn: without a LOT 71 is YARD 1's", z.drawn(0, 0, 0, 1), 1);
        HowDeep w = new HowDeep();
        w.layer(71, 0, 0);
        Due.place(w, 0);
        w.rule(1, 1, 0);
        Due.is("drawn: and is not less than 71", w.drawn(0, 0, 0, 1), -1);
    }

    /** It ends where the RULE stops or DEEPEST is reached; where HOW MUCH is 0, as FarmsTest shows. */
    private static void drawnEnds() {
        HowDeep x = new HowDeep();
        x.layer(0, 0, 0);
        x.layer(100, 0, 1);
        Due.law(x, "cost yard;water base;fall 0;");
        Due.place(x, 1, 0);
        x.rule(0, 5, 0);
        x.rule(1, 5, 0);
        x.rule(2, 5, 1);
        x.rule(5, 0, 0);
        x.rule(3, 0, 0);
        int[] dug = {0, 4, 1, 0, 0};
        for (int r = 0; r < 5; r++) {
            Due.is("drawn: YARDS by " + r, x.drawn(r, 0, 0, 2), dug[r]);
            Due.is("drawn: COSTS by " + r, x.drawn(r, 0, 0, 0), dug[r] * (dug[r] + 1) / 2);
            Due.is("drawn: no water by " + r, x.drawn(r, 0, 0, 1), -1);
        }
        for (int deepest = 1; deepest <= 5; deepest++) {
            x.set(0, deepest);
            Due.is("drawn: DEEPEST " + deepest, x.drawn(1, 0, 0, 2), deepest);
        }
        x.follow(0, 1, 1);
        Due.is("drawn: water below", x.drawn(1, 0, 0, 1), 2);
        // FIRST all 0: LAYER 0, which is thought to be half of the ground
        HowDeep y = new HowDeep();
        y.layer(0, 0, 2);
        y.layer(0, 0, 1);
        Due.place(y, 0, 0);
        y.rule(2, 5, 4);
        Due.is("drawn: LAYER 0 shows its SIGN", y.drawn(0, 0, 0, 2), 1);
    }

    // ---- promises 40, 41: how many PLACES; STATE: there is none

    private static void imageBounds() {
        HowDeep x = PlacesTest.plain();
        Due.is("undo: none yet", x.undo(), HowDeep.STATE);
        Due.is("undo: still none", x.undo(), HowDeep.STATE);
        for (int p = 0; p <= 4; p++) {
            Due.is("image: PLACES", x.image(), p);
            Due.is("undo: PLACES", x.undo(), p);
            if (p < 4) Due.place(x, 1, 1);
            Due.is("undo: one came since", x.undo(), Math.min(4, p + 1));
        }
        HowDeep y = PlacesTest.plain();
        Due.is("undo: of another object there is none", y.undo(), HowDeep.STATE);
    }

    /** All that it keeps, one by one. */
    private static void undoEach() {
        int[] other = {1, 9999, 9, 0, 9999};
        int[] first = {4, 200, 0, 300, 20};
        for (int what = 0; what < 5; what++) {
            HowDeep x = new HowDeep();
            x.image();
            x.set(what, other[what]);
            Due.is("undo: none", x.undo(), 0);
            for (int w = 0; w < 5; w++) Due.is("undo: " + w + " behind " + what, x.count(w), first[w]);
            x.set(what, other[what]);
            x.image();
            x.set(what, first[what]);
            x.undo();
            Due.is("undo: the other way " + what, x.count(what), other[what]);
        }
        HowDeep y = new HowDeep();
        for (int j = 0; j < 5; j++) y.layer(50, 0, j % 3);
        for (int i = 0; i < 5; i++) for (int j = 0; j < 5; j++) y.follow(i, j, (3 * i + j) % 10);
        for (int p = 0; p < 4; p++) Due.place(y, 1, 1, 1, 1, 1);
        for (int p = 0; p < 4; p++) for (int q = 0; q < p; q++) y.ties(p, q, 10 * p + q);
        y.set(0, 5);
        for (int p = 0; p < 4; p++) for (int d = 0; d <= p + 1; d++) y.dig(p, (d + p) % 3);
        y.image();
        for (int i = 0; i < 5; i++) for (int j = 0; j < 5; j++) y.follow(i, j, 9 - (3 * i + j) % 10);
        for (int p = 0; p < 4; p++) for (int q = 0; q < p; q++) y.ties(p, q, 100);
        for (int p = 0; p < 4; p++) y.fill(p);
        for (int p = 0; p < 4; p++) for (int d = 0; d < 5; d++) y.dig(p, (d + p + 1) % 3);
        Due.is("undo: four", y.undo(), 4);
        for (int p = 0; p < 4; p++) {
            Due.is("undo: YARDS at " + p, y.told(p, 0), p + 2);
            for (int d = 0; d < 5; d++) Due.is("undo: SIGN " + d + " at " + p, y.told(p, d + 2), d <= p + 1 ? (d + p) % 3 : -1);
            for (int q = 0; q < p; q++) Due.is("undo: TIES", y.ties(p, q, 0), 10 * p + q);
        }
        for (int i = 0; i < 5; i++) for (int j = 0; j < 5; j++) Due.is("undo: FOLLOWS", y.follow(i, j, 0), (3 * i + j) % 10);
    }

    private static void undoWater() {
        HowDeep x = PlacesTest.plain();
        for (int p = 0; p < 2; p++) Due.place(x, 1, 1);
        Due.text(x, "cost 77;water 1;fall 1;");
        x.dig(0, 3);
        x.force(2);
        x.image();
        x.fill(0);
        x.dig(1, 3);
        x.force(0);
        x.undo();
        Due.is("undo: water is there", x.told(0, 1), 1);
        Due.is("undo: water is not", x.told(1, 1), 0);
        Due.is("undo: THE LAW", x.count(10), 2);
        Due.is("undo: its COST", x.asks(0, 1, 0, 0), 77);
        x.set(2, 9);
        x.image();
        x.set(2, 0);
        x.force(0);
        x.undo();
        Due.is("undo: SEASON", x.count(2), 9);
        Due.is("undo: WATER by THE LAW of then", x.asks(1, 1, 0, 0), 1);
        x.force(0);
        Due.is("undo: WATER by the SEASON of then", x.asks(1, 1, 0, 0), 5);
    }

    /** RULES, FARMS, TEXTS, THE TAPE, SHEETS are as they are. */
    private static void undoNothingElse() {
        HowDeep x = PlacesTest.plain();
        Due.sheet(x, 0, 2, 5, 6);
        x.rule(1, 1, 1);
        x.image();
        x.rule(2, 2, 2);
        x.farm(3, 3);
        Due.text(x, "cost 1;water 1;fall 1;");
        x.feed('c', 1);
        x.cell(0, 1, 9);
        x.sheet(1, 0, 7);
        Due.is("undo: none", x.undo(), 0);
        int[] want = {2, 0, 2, 1, 3, 1, 1};
        for (int i = 0; i < want.length; i++) Due.is("undo: count " + (5 + i), x.count(5 + i), want[i]);
        Due.is("undo: a SHEET that came", x.cell(1, 6, 0), 1);
        x.place(0);
        Due.is("undo: what a SHEET became", x.told(0, 8), 9);
    }

    /** PLACES, LAYERS that came since stay as they are. */
    private static void undoSince() {
        HowDeep x = new HowDeep();
        x.layer(50, 0, 0);
        x.image();
        x.layer(60, 7, 1);
        x.follow(0, 0, 4);
        Due.is("undo: no PLACES", x.undo(), 0);
        Due.is("undo: a LAYER that came", x.count(5), 2);
        Due.is("undo: its BASE", x.taken(1, 6), 60);
        Due.is("undo: FOLLOWS of the one that was there", x.follow(0, 0, 0), 0);
        Due.place(x, 1, 2);
        x.dig(0, 0);
        x.image();
        Due.place(x, 3, 4);
        x.dig(1, 1);
        x.dig(0, 0);
        Due.is("undo: two PLACES", x.undo(), 2);
        Due.is("undo: the one that came", x.told(1, 8), 4);
        Due.is("undo: what is DUG there", x.told(1, 0), 1);
        Due.is("undo: its SIGN", x.told(1, 2), 1);
        Due.is("undo: what was DUG at the other one", x.told(0, 0), 1);
        Due.is("undo: TIES with one that came are alike either way", tiesBehindUndo(0, 1), tiesBehindUndo(1, 0));
    }

    private static int tiesBehindUndo(int p, int q) {
        HowDeep x = PlacesTest.plain();
        Due.place(x, 1, 2);
        x.image();
        Due.place(x, 2, 1);
        x.ties(0, 1, 40);
        x.undo();
        return x.ties(p, q, 0);
    }
}
