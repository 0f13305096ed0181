/** Promises 28 to 33: BORES, a DIVINER, FALLEN, LINING, at their bounds. */
public final class BoresEdgesTest {
    public static void main(String[] args) {
        placeBounds();
        boreBounds();
        boreNothing();
        boreBehind();
        boreSpent();
        boreSalt();
        farBounds();
        farLike();
        divinerBounds();
        divinerNothing();
        divinerCut();
        divinerCutApart();
        divinerLeast();
        greatest();
        believeFirst();
        believeLast();
        believeNever();
        fallBounds();
        falls();
        lineBounds();
        lineLike();
        Due.end("BoresEdgesTest");
    }

    /** One LAYER, WET by so much of 100, and one PLACE; each YARD costs so much; water has such a WORTH. */
    private static HowDeep one(int wet, int salt, int cost, int worth) {
        HowDeep x = new HowDeep();
        x.layer(wet, salt, 0);
        Due.law(x, "cost " + cost + ";water base;fall 0;");
        Due.place(x, 1);
        x.set(0, 1);
        x.set(1, worth);
        return x;
    }

    /** LAYER 0 is wet and shows 0, LAYER 1 is dry and shows 1; either by half. */
    private static HowDeep two(String law, int deepest, int worth, int salt) {
        HowDeep x = new HowDeep();
        x.layer(100, salt, 0);
        x.layer(0, 0, 1);
        Due.law(x, law);
        Due.place(x, 1, 1);
        x.set(0, deepest);
        x.set(1, worth);
        return x;
    }

    private static void placeBounds() {
        HowDeep x = PlacesTest.plain();
        for (int p = 0; p < 4; p++) Due.place(x, 1, 1);
        x.set(0, 2);
        Bounds.refused("bore: p", 0, 3, HowDeep.NO, p -> x.bore(p, 2));
        Bounds.refused("far: p", 0, 3, -5, p -> x.far(p, 2));
        Bounds.refused("diviner: p", 0, 3, HowDeep.NO, p -> x.diviner(p, 50));
        Bounds.refused("believe: p", 0, 3, -5, p -> x.believe(p));
        Bounds.taken("bore: p", 0, 3, 7500000, 7500000, p -> x.bore(p, 2));
        Bounds.taken("far: p", 0, 3, 2, 2, p -> x.far(p, 2));
        Bounds.taken("diviner: p", 0, 3, 0, 0, p -> x.diviner(p, 50));
        Bounds.taken("believe: p", 0, 3, -1, -1, p -> x.believe(p));
    }

    // ---- promise 28: n YARDS (0 .. 5); NO; STATE as of best()

    private static void boreBounds() {
        HowDeep x = PlacesTest.plain();
        Due.place(x, 1, 1);
        x.set(0, 2);
        Bounds.refused("bore: n", 0, 5, HowDeep.NO, n -> x.bore(0, n));
        Bounds.taken("bore: n", 0, 5, 0, 7500000, n -> x.bore(0, n));
        x.dig(0, 3);
        Bounds.refused("bore: NO ahead of water, n", 0, 5, HowDeep.NO, n -> x.bore(0, n));
        Bounds.taken("bore: water, n", 0, 5, HowDeep.STATE, HowDeep.STATE, n -> x.bore(0, n));
        x.fill(0);
        x.dig(0, 2);
        Bounds.refused("bore: NO ahead of what CAN'T BE, n", 0, 5, HowDeep.NO, n -> x.bore(0, n));
        Bounds.taken("bore: CAN'T BE, n", 0, 5, HowDeep.STATE, HowDeep.STATE, n -> x.bore(0, n));
    }

    /** A BORE of no YARDS, or one that tells nothing new, is worth nothing. */
    private static void boreNothing() {
        for (int n = 0; n <= 5; n++) {
            Due.is("bore " + n + ": all is wet", one(100, 0, 10, 200).bore(0, n), 0);
            Due.is("bore " + n + ": all is dry", one(0, 0, 10, 200).bore(0, n), 0);
            Due.is("bore " + n + ": water is worth nothing", one(50, 0, 10, 0).bore(0, n), 0);
            Due.is("bore " + n + ": it costs more than water is worth", one(100, 0, 201, 200).bore(0, n), 0);
        }
        HowDeep x = PlacesTest.plain();
        Due.place(x, 1, 1);
        Due.is("bore: none, though one goes on", x.bore(0, 0), 0);
    }

    /** If none is left, or behind DEEPEST; from the next YARD of the PLACE on. */
    private static void boreBehind() {
        for (int deepest = 1; deepest <= 5; deepest++) {
            HowDeep x = two("cost 10;water base*(yard=" + deepest + ");fall 0;", deepest, 200, 0);
            // YARD 1 tells of the LAYER, so that VALUE stops there, where it is the dry one
            long value = 500000L * (200 - 10 * (deepest - 1)) - 10000000;
            long told = 500000L * (200 - 10 * deepest);
            Due.is("bore to YARD " + deepest, x.bore(0, deepest), told - value);
            for (int n = deepest; n <= 5; n++) Due.is("bore beyond it " + n, x.bore(0, n), told - value);
            for (int y = 1; y <= deepest; y++) x.dig(0, 1);
            for (int n = 0; n <= 5; n++) Due.is("bore: DEEPEST is reached " + n, x.bore(0, n), 0);
            Due.is("far: DEEPEST is reached", x.far(0, 0), 0);
            if (deepest > 1) x.set(0, deepest - 1);
            Due.is("bore: DEEPEST lies above", x.bore(0, 5), 0);
        }
    }

    /** VALUE less what is spent, 0 at least: YARD 1 has no water, but tells of YARD 2. */
    private static void boreSpent() {
        int[] worth = {18, 19, 20, 21, 22, 30, 31, 40};
        for (int w : worth) {
            HowDeep x = two("cost 10;water base*(yard=2);fall 0;", 2, w, 0);
            long told = 500000L * Math.max(0, w - 20);
            long value = Math.max(0, 500000L * Math.max(0, w - 10) - 10000000);
            Due.is("bore: one YARD, WORTH " + w, x.bore(0, 1), told - value);
            Due.is("bore: both YARDS, WORTH " + w, x.bore(0, 2), told - value);
        }
    }

    /** WORTH less SALT, 0 at least, less all that is spent, 0 at least. */
    private static void boreSalt() {
        for (int worth = 0; worth <= 22; worth++) {
            HowDeep x = two("cost 10;water base;fall 0;", 1, worth, 9);
            long value = Math.max(0, 500000L * Math.max(0, worth - 9) - 10000000);
            Due.is("bore: SALT 9, COST 10, WORTH " + worth, x.bore(0, 1), 500000L * Math.max(0, worth - 19) - value);
        }
    }

    // ---- promise 29: n (0 .. 5), cost (0 .. 999), of like ones the least; -5; -7; STATE

    private static void farBounds() {
        HowDeep x = PlacesTest.plain();
        Due.place(x, 1, 1);
        x.set(0, 2);
        Bounds.refused("far: cost", 0, 999, -7, c -> x.far(0, c));
        Bounds.taken("far: cost", 0, 999, 2, 0, c -> x.far(0, c));
        Bounds.refused("far: -5 ahead of -7, cost", 0, 999, -5, c -> x.far(1, c));
        x.dig(0, 3);
        Bounds.refused("far: -7 ahead of STATE, cost", 0, 999, -7, c -> x.far(0, c));
        Bounds.taken("far: water, cost", 0, 999, HowDeep.STATE, HowDeep.STATE, c -> x.far(0, c));
    }

    private static void farLike() {
        HowDeep x = two("cost 10;water base*(yard=5);fall 0;", 5, 200, 0);
        // nothing by 1 to 4 but what YARD 1 shows: 150 by half, less 160 by half and a coin of 10 ahead
        Due.is("far: nothing is worth more", x.far(0, 999), 0);
        Due.is("bore 1", x.bore(0, 1), 75000000L - 70000000);
        Due.is("bore 5", x.bore(0, 5), 75000000L - 70000000);
        Due.is("far: one YARD tells all", x.far(0, 0), 1);
        Due.is("far: a coin less", x.far(0, 4), 1);
        Due.is("far: as much as it costs is not more", x.far(0, 5), 0);
        HowDeep y = new HowDeep();
        for (int j = 0; j < 2; j++) y.layer(100 * j, 0, 0);
        Due.law(y, "cost 0;water base*(yard=5);fall 0;");
        Due.place(y, 1, 1);
        y.set(0, 5);
        Due.is("far: it costs nothing to dig", y.far(0, 0), 0);
        Due.law(y, "cost 200;water base*(yard=5);fall 0;");
        Due.is("far: nor does it help", y.far(0, 0), 0);
        Due.law(y, "cost 10;water base*(yard=5);fall 0;");
        Due.is("far: the last of all", y.far(0, 4), 5);
        Due.is("far: as much as it costs", y.far(0, 5), 0);
    }

    // ---- promise 30: RIGHT (0 .. 100); 0: DEEPEST is reached; NO; STATE

    private static void divinerBounds() {
        HowDeep x = one(20, 0, 30, 200);
        Bounds.refused("diviner: RIGHT", 0, 100, HowDeep.NO, v -> x.diviner(0, v));
        Bounds.taken("diviner: RIGHT", 0, 100, 24000000, 24000000, v -> x.diviner(0, v));
        x.dig(0, 0);
        Bounds.refused("diviner: DEEPEST is reached, RIGHT", 0, 100, HowDeep.NO, v -> x.diviner(0, v));
        Bounds.taken("diviner: DEEPEST is reached, RIGHT", 0, 100, 0, 0, v -> x.diviner(0, v));
        Due.is("believe: DEEPEST is reached", x.believe(0), -1);
        x.set(0, 2);
        Due.is("diviner: not any more", x.diviner(0, 100), 24000000);
        x.dig(0, 1);
        Due.is("diviner: CAN'T BE, though DEEPEST is reached", x.diviner(0, 100), HowDeep.STATE);
        Due.is("believe: CAN'T BE, though DEEPEST is reached", x.believe(0), HowDeep.STATE);
        Bounds.refused("diviner: NO ahead of STATE, RIGHT", 0, 100, HowDeep.NO, v -> x.diviner(0, v));
        x.fill(0);
        x.dig(0, 3);
        Due.is("diviner: water", x.diviner(0, 100), HowDeep.STATE);
        Due.is("believe: water", x.believe(0), HowDeep.STATE);
        x.fill(0);
        x.dig(0, 0);
        x.dig(0, 0);
        x.set(0, 1);
        Due.is("diviner: DEEPEST lies above", x.diviner(0, 100), 0);
        Due.is("believe: DEEPEST lies above", x.believe(0), -1);
    }

    /** YES and NO 0 at least, G 0 at least. */
    private static void divinerNothing() {
        for (int right = 0; right <= 100; right += 10) {
            Due.is("diviner: all is wet", one(100, 0, 10, 200).diviner(0, right), 0);
            Due.is("diviner: all is dry", one(0, 0, 10, 200).diviner(0, right), 0);
            Due.is("diviner: water is worth nothing", one(50, 0, 10, 0).diviner(0, right), 0);
            Due.is("diviner: it is too dear", one(50, 0, 999, 200).diviner(0, right), 0);
        }
        // G is -10 coins; YES of 60 is 12 - 30 * 11 / 25 coins
        HowDeep x = one(20, 0, 30, 100);
        Due.is("diviner: YES below 0", x.diviner(0, 60), 0);
        // 20 * 90 / 100 - 30 * 26 / 100
        Due.is("diviner: YES above 0, G below", x.diviner(0, 90), 10200000);
        Due.is("diviner: wrong as often", x.diviner(0, 10), 10200000);
    }

    /** All quotients are cut: of 333333 80 and 20 of 100 each. */
    private static void divinerCut() {
        HowDeep x = new HowDeep();
        x.layer(100, 0, 0);
        x.layer(0, 0, 1);
        Due.law(x, "cost 0;water base;fall 0;");
        Due.place(x, 1, 2);
        x.set(0, 1);
        x.set(1, 1);
        Due.is("diviner: 80", x.diviner(0, 80), -1);
        Due.is("diviner: 50", x.diviner(0, 50), -1);
        Due.is("diviner: 100", x.diviner(0, 100), 0);
        Due.is("believe: never above 0", x.believe(0), -1);
    }

    /** W 166666 and N 83333 are cut one by one: by 51 of 100 to 84999 and 40833, by 49 to 81666 and 42499; G is 249999. */
    private static void divinerCutApart() {
        HowDeep x = PlacesTest.plain();
        Due.law(x, "cost 0;water base;fall 0;");
        Due.place(x, 1, 2);
        x.set(0, 2);
        x.set(1, 1);
        Due.is("diviner: G", x.best(0), 249999);
        Due.is("diviner: 51", x.diviner(0, 51), 84999 + 40833 + 81666 + 42499 - 249999);
    }

    /** W 20122180, C 12 coins, Q 837776: YES of 55 is 4661868, NO 3460313, G 8122180. */
    private static void divinerLeast() {
        HowDeep x = new HowDeep();
        x.layer(96, 0, 0);
        x.layer(74, 2, 1);
        Due.place(x, 4, 5);
        x.set(0, 1);
        x.set(1, 25);
        Due.is("diviner: 55", x.diviner(0, 55), 1);
        Due.holds("diviner: 54", x.diviner(0, 54) <= 0);
        Due.is("believe: 1 is above 0", x.believe(0), 55);
    }

    /** No product of the greatest numbers wraps around. */
    private static void greatest() {
        HowDeep x = one(50, 0, 999, 9999);
        // W 4999500000, C 999000000, Q 500000
        Due.is("greatest: diviner", x.diviner(0, 100), 499500000);
        Due.is("greatest: diviner, as often wrong", x.diviner(0, 50), 0);
        Due.is("greatest: best", x.best(0), 4000500000L);
        Due.is("greatest: bore", x.bore(0, 5), 500000L * 9000 - 4000500000L);
        Due.is("greatest: far", x.far(0, 999), 0);
        HowDeep y = two("cost 999*(yard=2);water base*(yard=2);fall 0;", 2, 9999, 0);
        Due.is("greatest: bore to YARD 2", y.bore(0, 2), 0);
        Due.is("greatest: best above it", y.best(0), 4500000000L);
        HowDeep z = new HowDeep();
        z.layer(100, 0, 0);
        z.layer(0, 0, 1);
        Due.law(z, "cost 0;water base*(yard=2);fall 0;");
        Due.place(z, 1, 0);
        Due.place(z, 0, 1);
        z.ties(0, 1, 100);
        z.set(1, 9999);
        z.rule(3, 0, 0);
        Due.is("greatest: learn", z.learn(0), 9999000000L);
        Due.is("greatest: learn of the other", z.learn(1), -9999000000L);
        Due.is("greatest: first", z.first(), 0);
        Due.is("greatest: GOOD", z.mean(0, 0, 3), 9999000000L);
        Due.law(z, "cost 999;water 0;fall 100-100*lined;");
        z.set(4, 9999);
        Due.is("greatest: line", z.line(5), 5);
        z.set(4, 998);
        Due.is("greatest: line, all lined", z.line(5), 0);
    }

    // ---- promise 31: the least RIGHT (50 .. 100) with which that is above 0; -1: none

    /** W 11700000, C 12 coins, Q 300000: YES of 51 is 5967000 less 5952000; as good are 49, which is less, but not asked for. */
    private static void believeFirst() {
        HowDeep x = new HowDeep();
        x.layer(30, 8, 0);
        Due.place(x, 1);
        x.set(0, 1);
        x.set(1, 47);
        Due.is("diviner: 51", x.diviner(0, 51), 15000);
        Due.is("diviner: 50", x.diviner(0, 50), 0);
        Due.is("diviner: 49", x.diviner(0, 49), 15000);
        Due.is("believe: 51", x.believe(0), 51);
    }

    private static void believeLast() {
        HowDeep x = one(99, 0, 100, 200);
        Due.is("diviner: 99", x.diviner(0, 99), 0);
        Due.is("diviner: 100", x.diviner(0, 100), 1000000);
        Due.is("believe: 100", x.believe(0), 100);
    }

    private static void believeNever() {
        Due.is("believe: all is wet", one(100, 0, 10, 200).believe(0), -1);
        Due.is("believe: all is dry", one(0, 0, 10, 200).believe(0), -1);
        Due.is("believe: it is too dear", one(50, 0, 999, 200).believe(0), -1);
        Due.is("believe: it costs nothing", one(50, 0, 0, 200).believe(0), -1);
    }

    // ---- promise 32: depth, from 0 .. 5 each; NO

    private static void fallBounds() {
        HowDeep x = new HowDeep();
        Bounds.refused("fall: depth", 0, 5, HowDeep.NO, v -> x.fall(v, 2));
        Bounds.refused("fall: from", 0, 5, HowDeep.NO, v -> x.fall(2, v));
        Bounds.taken("fall: depth", 0, 5, 0, 1000000 - 980000 * 96 / 100 * 94 / 100 * 92 / 100 * 9 / 10, v -> x.fall(v, 2));
        Bounds.taken("fall: from", 0, 5, 59200, 59200, v -> x.fall(2, v));
    }

    /** Of a well of d YARDS, of which those behind YARD f are lined. */
    private static void falls() {
        HowDeep x = new HowDeep();
        int[] stands = {1000000, 500000, 250000, 125000, 62500, 31250};
        Due.law(x, "cost 30;water 1;fall 50-lined*50;");
        for (int d = 0; d <= 5; d++) {
            for (int f = 0; f <= 5; f++) Due.is("fall " + d + " " + f, x.fall(d, f), 1000000 - stands[Math.min(d, f)]);
        }
        Due.law(x, "cost 30;water 1;fall lined*50;");
        for (int d = 0; d <= 5; d++) {
            for (int f = 0; f <= 5; f++) Due.is("fall, lined " + d + " " + f, x.fall(d, f), 1000000 - stands[Math.max(0, d - f)]);
        }
        Due.law(x, "cost 30;water 1;fall (yard=3)*100;");
        for (int d = 0; d <= 5; d++) Due.is("fall: all at YARD 3 " + d, x.fall(d, 0), d < 3 ? 0 : 1000000);
        Due.law(x, "cost 30;water 1;fall 99;");
        int[] left = {1000000, 10000, 100, 1, 0, 0};
        for (int d = 0; d <= 5; d++) Due.is("fall: cut to nothing " + d, x.fall(d, 5), 1000000 - left[d]);
    }

    // ---- promise 33: depth (0 .. 5); BAD; f (0 .. depth), of like ones the least

    private static void lineBounds() {
        HowDeep x = new HowDeep();
        Bounds.refused("line: depth", 0, 5, HowDeep.BAD, v -> x.line(v));
        Due.law(x, "cost 30;water 1;fall 50-lined*50;");
        for (int lining : new int[] {0, 9999}) {
            x.set(4, lining);
            for (int depth = 0; depth <= 5; depth++) Due.is("line " + depth + ", LINING " + lining, x.line(depth), lining == 0 ? 0 : depth);
        }
        x.set(0, 1);
        Due.is("line: beyond DEEPEST", x.line(5), 5);
        HowDeep dear = new HowDeep();
        Due.law(dear, "cost 999;water 1;fall 100-lined*100;");
        dear.set(4, 4995);
        // lining all five: five times 4995 coins; none: all COSTS are 4995
        Due.is("line: the dearest", dear.line(5), 5);
        dear.set(4, 999);
        Due.is("line: as much as all COSTS", dear.line(5), 0);
        dear.set(4, 1000);
        Due.is("line: a coin more", dear.line(5), 5);
    }

    /** 0: LINING; 1: half of 30. */
    private static void lineLike() {
        HowDeep x = new HowDeep();
        Due.law(x, "cost 30;water 1;fall 50-lined*50;");
        int[] lining = {14, 15, 16};
        for (int v : lining) {
            x.set(4, v);
            Due.is("line: one YARD, LINING " + v, x.line(1), v > 15 ? 1 : 0);
        }
        // FALLEN to YARD 4 alone: half of 150 against 1 or 2 YARDS that are lined
        Due.law(x, "cost 30;water 1;fall (yard=4)*(50-lined*50);");
        int[] lines = {37, 38};
        for (int v : lines) {
            x.set(4, v);
            Due.is("line: behind YARD 3, LINING " + v, x.line(5), v > 37 ? 5 : 3);
        }
        Due.law(x, "cost 20;water 1;fall (yard=4)*(50-lined*50);");
        x.set(4, 25);
        Due.is("line: 3 and 5 alike", x.line(5), 3);
    }
}
