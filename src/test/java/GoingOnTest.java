/** Promises 19 to 27: VALUE, GOING ON, INDEX, and RULES; worked by hand on the plain ground of PlacesTest. */
public final class GoingOnTest {
    public static void main(String[] args) {
        values();
        states();
        indexes();
        chosen();
        rules();
        means();
        rights();
        goes();
        Due.end("GoingOnTest");
    }

    /** Two YARDS: YARD 2 is worth 90 coins behind SIGN 0, nothing behind SIGN 1. */
    private static HowDeep two() {
        HowDeep x = PlacesTest.plain();
        Due.place(x, 1, 1);
        x.set(0, 2);
        return x;
    }

    private static void values() {
        HowDeep x = two();
        Due.is("best: no PLACE", x.best(1), HowDeep.NO);
        Due.is("back: no PLACE", x.back(1), HowDeep.NONE);
        Due.is("best: YARD 1", x.best(0), 62500000);
        Due.is("back: YARD 1", x.back(0), 1);
        x.dig(0, 0);
        Due.is("best: behind SIGN 0", x.best(0), 90000000);
        x.fill(0);
        x.dig(0, 1);
        Due.is("best: behind SIGN 1 one stops", x.best(0), 0);
        Due.is("back: behind SIGN 1", x.back(0), 0);
        x.dig(0, 1);
        Due.is("best: DEEPEST is reached", x.best(0), 0);
        Due.is("back: DEEPEST is reached", x.back(0), 0);
        x.fill(0);
        x.set(1, 33);
        Due.is("best: water is worth too little", x.best(0), 0);
        x.set(1, 20);
        x.dig(0, 0);
        x.rule(3, 0, 0);
        Due.is("back: 0 is not above 0", x.back(0), 0);
        Due.is("goesBy: BEST stops at 0", x.goesBy(0, 0), 0);
        HowDeep y = new HowDeep();
        y.layer(100, 9, 0);
        Due.law(y, "cost 0;water base;fall 0;");
        Due.place(y, 1);
        y.set(1, 5);
        Due.is("best: WORTH less SALT, 0 at least", y.best(0), 0);
        y.set(1, 12);
        Due.is("best: WORTH less SALT", y.best(0), 3000000);
    }

    private static void states() {
        HowDeep x = two();
        x.rule(3, 0, 0);
        x.dig(0, 3);
        for (int turn = 0; turn < 2; turn++) {
            String why = turn == 0 ? ": there is water" : ": it CAN'T BE";
            Due.is("best" + why, x.best(0), HowDeep.STATE);
            Due.is("back" + why, x.back(0), HowDeep.STATE);
            Due.is("index" + why, x.index(0), HowDeep.STATE);
            Due.is("next" + why, x.next(), -1);
            Due.is("goesBy" + why, x.goesBy(0, 0), HowDeep.STATE);
            Due.is("bore" + why, x.bore(0, 1), HowDeep.STATE);
            Due.is("far" + why, x.far(0, 0), HowDeep.STATE);
            Due.is("diviner" + why, x.diviner(0, 50), HowDeep.STATE);
            Due.is("believe" + why, x.believe(0), HowDeep.STATE);
            x.fill(0);
            x.dig(0, 2);
        }
    }

    private static void indexes() {
        HowDeep x = two();
        Due.is("index: no PLACE", x.index(1), -5);
        Due.is("index: no PLACE -1", x.index(-1), -5);
        Due.is("index: YARD 1", x.index(0), 34);
        x.set(1, 0);
        Due.is("index: whatever WORTH is", x.index(0), 34);
        x.dig(0, 0);
        Due.is("index: YARD 2 behind SIGN 0", x.index(0), 21);
        x.fill(0);
        x.dig(0, 1);
        Due.is("index: none", x.index(0), -1);
        x.fill(0);
        x.dig(0, 0);
        x.dig(0, 0);
        Due.is("index: DEEPEST is reached", x.index(0), -1);
        HowDeep y = new HowDeep();
        y.layer(10, 0, 0);
        Due.place(y, 1);
        y.set(0, 1);
        Due.law(y, "cost 999;water base;fall 0;");
        Due.is("index: 9991", y.index(0), 9991);
        Due.law(y, "cost 0;water base;fall 0;");
        Due.is("index: without cost", y.index(0), 1);
        HowDeep z = new HowDeep();
        z.layer(9, 9, 0);
        Due.place(z, 1);
        z.set(0, 1);
        Due.law(z, "cost 899;water base;fall 0;");
        Due.is("index: 9998 and its salt", z.index(0), 9998);
        Due.law(z, "cost 900;water base;fall 0;");
        Due.is("index: beyond all WORTH", z.index(0), -1);
    }

    private static void chosen() {
        HowDeep x = two();
        Due.is("next: no PLACES", new HowDeep().next(), -1);
        Due.is("next: one", x.next(), 0);
        Due.place(x, 1, 0);
        Due.place(x, 1, 0);
        Due.is("next: of like ones the first", x.next(), 1);
        x.dig(1, 3);
        Due.is("next: not where there is water", x.next(), 2);
        x.dig(2, 0);
        x.dig(2, 0);
        Due.is("next: not where DEEPEST is reached", x.next(), 0);
        x.set(1, 34);
        Due.is("next: no more than WORTH", x.next(), 0);
        x.set(1, 33);
        Due.is("next: more than WORTH", x.next(), -1);
    }

    private static void rules() {
        HowDeep x = two();
        Due.is("rule: KIND -1", x.rule(-1, 0, 0), HowDeep.BAD);
        Due.is("rule: KIND 6", x.rule(6, 0, 0), HowDeep.BAD);
        Due.is("rule: MORE -1", x.rule(0, -1, 0), HowDeep.BAD);
        Due.is("rule: MORE 6", x.rule(0, 6, 0), HowDeep.BAD);
        Due.is("rule: STOPS -1", x.rule(0, 0, -1), HowDeep.BAD);
        Due.is("rule: STOPS 8", x.rule(0, 0, 8), HowDeep.BAD);
        Due.is("rule: refused ones do not count", x.count(7), 0);
        for (int r = 0; r < 8; r++) Due.is("rule: number", x.rule(r % 6, r % 6, 7 - r), r);
        Due.is("rule: FULL", x.rule(0, 0, 0), HowDeep.FULL);
        Due.is("rule: BAD ahead of FULL", x.rule(6, 0, 0), HowDeep.BAD);
        Due.is("ruleTold: KIND", x.ruleTold(4, 0), 4);
        Due.is("ruleTold: MORE", x.ruleTold(5, 1), 5);
        Due.is("ruleTold: STOPS", x.ruleTold(5, 2), 2);
        Due.is("ruleTold: no RULE", x.ruleTold(8, 3), -5);
        Due.is("ruleTold: no RULE -1", x.ruleTold(-1, 0), -5);
        Due.is("ruleTold: 3", x.ruleTold(0, 3), -7);
        Due.is("ruleTold: -1", x.ruleTold(0, -1), -7);
    }

    private static void means() {
        HowDeep x = two();
        mean(x, 0, 5, 0, 0, 0, 0);
        mean(x, 1, 2, 0, 17500000, 375000, 75000000);
        mean(x, 1, 5, 0, 17500000, 375000, 75000000);
        mean(x, 1, 1, 0, 10000000, 250000, 50000000);
        mean(x, 1, 0, 0, 0, 0, 0);
        mean(x, 2, 2, 2, 12500000, 375000, 75000000);
        mean(x, 2, 2, 4, 17500000, 375000, 75000000);
        mean(x, 3, 0, 0, 12500000, 375000, 75000000);
        HowDeep y = two();
        mean(y, 4, 2, 3, 0, 0, 0);
        mean(y, 4, 2, 2, 12500000, 375000, 75000000);
        mean(y, 4, 1, 2, 10000000, 250000, 50000000);
        mean(y, 5, 1, 7, 17500000, 375000, 75000000);
        mean(y, 5, 0, 0, 0, 0, 0);
        Due.is("mean: no RULE", y.mean(5, 0, 0), HowDeep.NO);
        Due.is("mean: no PLACE", y.mean(0, 1, 0), HowDeep.NO);
        Due.is("mean: no what 4", y.mean(0, 0, 4), HowDeep.NO);
        Due.is("mean: no what -1", y.mean(0, 0, -1), HowDeep.NO);
        HowDeep z = two();
        z.rule(1, 2, 0);
        z.rule(2, 2, 2);
        z.set(3, 19);
        Due.is("mean: RUIN", z.mean(0, 0, 2), 625000);
        Due.is("mean: RUIN of a SIGN", z.mean(1, 0, 2), 125000);
        z.set(3, 20);
        Due.is("mean: no RUIN", z.mean(0, 0, 2), 0);
        z.set(3, 9);
        Due.is("mean: RUIN of all that is dry", z.mean(1, 0, 2), 625000);
        z.dig(0, 3);
        Due.is("mean: as if nothing was dug", z.mean(0, 0, 0), 17500000);
        HowDeep s = new HowDeep();
        s.layer(100, 9, 0);
        Due.place(s, 1);
        s.rule(1, 1, 0);
        Due.is("mean: GOOD less SALT", s.mean(0, 0, 3), 191000000);
        s.set(1, 5);
        Due.is("mean: GOOD 0 at least", s.mean(0, 0, 3), 0);
    }

    private static void mean(HowDeep x, int kind, int more, int stops, long spent, long water, long good) {
        int r = x.rule(kind, more, stops);
        String rule = "mean of a RULE " + kind + " " + more + " " + stops;
        Due.is(rule + ": SPENT", x.mean(r, 0, 0), spent);
        Due.is(rule + ": WATER", x.mean(r, 0, 1), water);
        Due.is(rule + ": RUIN", x.mean(r, 0, 2), 0);
        Due.is(rule + ": GOOD", x.mean(r, 0, 3), good);
    }

    private static void rights() {
        HowDeep x = two();
        Due.is("right: no PLACE", x.right(1), -5);
        Due.is("right: no RULE", x.right(0), -1);
        x.rule(0, 0, 0);
        Due.is("right: the only one", x.right(0), 0);
        x.rule(1, 1, 0);
        x.rule(1, 2, 0);
        x.rule(3, 0, 0);
        x.rule(2, 2, 2);
        Due.is("right: of like ones the first", x.right(0), 3);
        x.set(1, 0);
        Due.is("right: it is best to stop", x.right(0), 0);
        HowDeep y = two();
        y.set(1, 0);
        y.rule(1, 2, 0);
        y.rule(1, 1, 0);
        Due.is("right: all below 0", y.right(0), 1);
    }

    private static void goes() {
        HowDeep x = two();
        x.set(0, 4);
        Due.place(x, 1, 0);
        int[][] kinds = {{0, 5, 0}, {1, 2, 0}, {2, 2, 1}, {3, 0, 0}, {4, 2, 5}, {5, 0, 7}, {5, 3, 1}};
        for (int[] k : kinds) x.rule(k[0], k[1], k[2]);
        Due.is("goesBy: no RULE", x.goesBy(7, 0), -5);
        Due.is("goesBy: no PLACE", x.goesBy(0, 2), -5);
        goes(x, "nothing dug", 0, 1, 1, 1, 0, 0, 1);
        x.dig(0, 0);
        goes(x, "behind SIGN 0", 0, 1, 0, 1, 1, 1, 1);
        x.dig(0, 0);
        goes(x, "two YARDS", 0, 0, 0, 1, 0, 0, 0);
        x.fill(0);
        x.dig(0, 1);
        goes(x, "behind SIGN 1", 0, 1, 1, 0, 0, 1, 1);
        x.dig(0, 1);
        goes(x, "two YARDS of SIGN 1", 0, 0, 0, 0, 0, 0, 1);
        x.set(0, 2);
        goes(x, "never beyond DEEPEST", 0, 0, 0, 0, 0, 0, 0);
        x.set(0, 1);
        x.fill(0);
        x.dig(0, 0);
        goes(x, "not even as SHARE", 0, 0, 0, 0, 0, 0, 0);
    }

    private static void goes(HowDeep x, String when, int... want) {
        for (int r = 0; r < want.length; r++) Due.is("goesBy " + r + ", " + when, x.goesBy(r, 0), want[r]);
    }
}
