/** Promises 19 to 27: VALUE, GOING ON, INDEX, and RULES, at their bounds. */
public final class GoingOnEdgesTest {
    public static void main(String[] args) {
        placeBounds();
        aboveNothing();
        notAboveNothing();
        stopping();
        salty();
        deepest();
        hardly();
        indexBounds();
        indexOfTheMost();
        nextBounds();
        nextAmong();
        ruleBounds();
        rulesFull();
        deepRules();
        signRules();
        boreRules();
        boreJustBelow();
        shareRules();
        meanBounds();
        ruin();
        howFar();
        meanOfHardly();
        meanCut();
        rightBounds();
        Due.end("GoingOnEdgesTest");
    }

    /** One LAYER, WET by so much of 100, of SIGN 0, and one PLACE; each YARD costs so much. */
    private static HowDeep one(int wet, int salt, int cost) {
        HowDeep x = new HowDeep();
        x.layer(wet, salt, 0);
        Due.law(x, "cost " + cost + ";water base;fall 0;");
        Due.place(x, 1);
        return x;
    }

    private static void placeBounds() {
        HowDeep x = PlacesTest.plain();
        for (int p = 0; p < 4; p++) Due.place(x, p == 3 ? 1 : p, p == 3 ? 0 : 1);
        x.set(0, 1);
        x.rule(1, 1, 0);
        Bounds.refused("best: p", 0, 3, HowDeep.NO, p -> x.best(p));
        Bounds.refused("back: p", 0, 3, HowDeep.NONE, p -> x.back(p));
        Bounds.refused("index: p", 0, 3, -5, p -> x.index(p));
        Bounds.refused("mean: p", 0, 3, HowDeep.NO, p -> x.mean(0, p, 1));
        Bounds.refused("right: p", 0, 3, -5, p -> x.right(p));
        Bounds.refused("goesBy: p", 0, 3, -5, p -> x.goesBy(0, p));
        Bounds.taken("best: p", 0, 3, 0, 90000000, p -> x.best(p));
        Bounds.taken("back: p", 0, 3, 0, 1, p -> x.back(p));
        Bounds.taken("index: p", 0, 3, -1, 21, p -> x.index(p));
        Bounds.taken("mean: p", 0, 3, 0, 500000, p -> x.mean(0, p, 1));
        Bounds.taken("right: p", 0, 3, 0, 0, p -> x.right(p));
        Bounds.taken("goesBy: p", 0, 3, 1, 1, p -> x.goesBy(0, p));
    }

    // ---- GOING ON above 0: 92307 * 390 and 477691 * 381 is 218000001

    private static HowDeep barely(int cost) {
        HowDeep x = new HowDeep();
        x.layer(30, 0, 0);
        x.layer(69, 9, 1);
        Due.law(x, "cost " + cost + ";water base;fall 0;");
        Due.place(x, 4, 9);
        x.set(0, 1);
        x.set(1, 390);
        x.rule(3, 0, 0);
        return x;
    }

    private static void aboveNothing() {
        HowDeep x = barely(218);
        Due.is("barely: VALUE is 1", x.best(0), 1);
        Due.is("barely: 1 is above 0", x.back(0), 1);
        Due.is("barely: INDEX", x.index(0), 390);
        Due.is("barely: next", x.next(), 0);
        Due.is("barely: BEST goes on", x.goesBy(0, 0), 1);
        Due.is("barely: BEST comes to water", x.mean(0, 0, 1), 92307 + 477691);
        Due.is("barely: BEST digs", x.drawn(0, 0, 0, 2), 1);
        x.set(1, 389);
        Due.is("barely not: VALUE", x.best(0), 0);
        Due.is("barely not: back", x.back(0), 0);
        Due.is("barely not: INDEX is the same", x.index(0), 390);
        Due.is("barely not: next", x.next(), -1);
        Due.is("barely not: BEST", x.goesBy(0, 0), 0);
        HowDeep y = barely(219);
        Due.is("barely not: it costs more", y.back(0), 0);
        Due.is("barely not: INDEX is more", y.index(0), 392);
    }

    private static void notAboveNothing() {
        HowDeep x = one(50, 0, 10);
        x.set(0, 1);
        x.rule(3, 0, 0);
        int[] worth = {19, 20, 21};
        for (int w : worth) {
            x.set(1, w);
            boolean above = w > 20;
            Due.is("GOING ON by " + w + ": best", x.best(0), above ? 500000 : 0);
            Due.is("GOING ON by " + w + ": back", x.back(0), above ? 1 : 0);
            Due.is("GOING ON by " + w + ": BEST", x.goesBy(0, 0), above ? 1 : 0);
            Due.is("GOING ON by " + w + ": BEST comes to water", x.mean(0, 0, 1), above ? 500000 : 0);
            Due.is("GOING ON by " + w + ": BEST digs", x.drawn(0, 0, 0, 2), above ? 1 : 0);
            Due.is("GOING ON by " + w + ": next", x.next(), above ? 0 : -1);
            Due.is("GOING ON by " + w + ": INDEX", x.index(0), 21);
        }
        x.set(1, 0);
        Due.is("GOING ON by no WORTH", x.back(0), 0);
        x.set(1, 9999);
        Due.is("GOING ON by the most WORTH", x.best(0), 500000L * 9999 - 10000000);
    }

    /** VALUE: GOING ON, but 0 at least (one stops): also below. */
    private static void stopping() {
        HowDeep x = one(0, 0, 999);
        Due.is("VALUE: all YARDS are dear and dry", x.best(0), 0);
        Due.law(x, "cost (1<yard)*999;water base;fall 0;");
        Due.is("VALUE: one stops behind YARD 1, which costs nothing", x.best(0), 0);
        Due.is("VALUE: that is not above 0", x.back(0), 0);
        Due.law(x, "cost yard=1;water 100*(yard=2);fall 0;");
        Due.is("VALUE: YARD 1 costs 1, YARD 2 has water", x.best(0), 199000000);
        x.set(1, 1);
        Due.is("VALUE: which is worth as much", x.best(0), 0);
        Due.is("VALUE: as much is not above 0", x.back(0), 0);
        x.set(1, 2);
        Due.is("VALUE: a coin more", x.best(0), 1000000);
    }

    /** WORTH less its SALT, 0 at least, of each LAYER. */
    private static void salty() {
        for (int worth = 0; worth <= 12; worth++) {
            HowDeep x = one(100, 9, 0);
            x.set(1, worth);
            Due.is("SALT 9, WORTH " + worth, x.best(0), 1000000L * Math.max(0, worth - 9));
            Due.is("SALT 9, WORTH " + worth + ": back", x.back(0), worth > 9 ? 1 : 0);
            HowDeep y = new HowDeep();
            y.layer(100, 9, 0);
            y.layer(100, 0, 0);
            Due.law(y, "cost 0;water base;fall 0;");
            Due.place(y, 1, 1);
            y.set(1, worth);
            y.rule(1, 1, 0);
            long due = 500000L * worth + 500000L * Math.max(0, worth - 9);
            Due.is("SALT 9 and 0, WORTH " + worth, y.best(0), due);
            Due.is("SALT 9 and 0, WORTH " + worth + ": GOOD", y.mean(0, 0, 3), due);
        }
    }

    /** 0 behind DEEPEST; a YARD below, if y isn't DEEPEST. */
    private static void deepest() {
        long[] want = {0, 90000000, 135000000, 157500000, 168750000, 174375000};
        for (int deepest = 1; deepest <= 5; deepest++) {
            HowDeep x = one(50, 0, 10);
            x.set(0, deepest);
            for (int dug = 0; dug <= deepest; dug++) {
                Due.is("best: " + dug + " of " + deepest, x.best(0), want[deepest - dug]);
                Due.is("back: " + dug + " of " + deepest, x.back(0), dug < deepest ? 1 : 0);
                Due.is("index: " + dug + " of " + deepest, x.index(0), dug < deepest ? 21 : -1);
                x.dig(0, 0);
            }
            if (deepest > 1) x.set(0, deepest - 1);
            Due.is("best: DEEPEST lies above", x.best(0), 0);
            Due.is("back: DEEPEST lies above", x.back(0), 0);
            Due.is("index: DEEPEST lies above", x.index(0), -1);
            Due.is("next: DEEPEST lies above", x.next(), -1);
        }
    }

    /** HOW MUCH may be 1: 989999 * 200, less 10 coins, and 10000 and 1 of 1000000 times 190 coins. */
    private static void hardly() {
        HowDeep x = PlacesEdgesTest.hardly(99);
        Due.is("hardly: best", x.best(0), 189899990);
        Due.is("hardly: bore", x.bore(0, 2), 0);
        x.dig(0, 1);
        Due.is("hardly: best behind it", x.best(0), 190000000);
        HowDeep y = PlacesEdgesTest.hardly(100);
        Due.is("not at all: best", y.best(0), 190000000);
        y.dig(0, 1);
        Due.is("not at all: best behind it", y.best(0), HowDeep.STATE);
    }

    // ---- promise 21: the least WORTH (0 .. 9999) with which GOING ON would be above 0; -1: none

    private static void indexBounds() {
        Due.is("index: without cost", one(1, 0, 0).index(0), 1);
        Due.is("index: without cost, by SALT", one(1, 9, 0).index(0), 10);
        Due.is("index: without cost, without water", one(0, 0, 0).index(0), -1);
        HowDeep[] dear = {one(10, 7, 999), one(10, 8, 999), one(10, 9, 999), one(100, 0, 999), one(0, 0, 999)};
        int[] want = {9998, 9999, -1, 1000, -1};
        for (int i = 0; i < dear.length; i++) {
            dear[i].set(0, 1);
            Due.is("index: dear, " + i, dear[i].index(0), want[i]);
            dear[i].set(1, 9999);
            Due.is("index: dear, whatever WORTH is, " + i, dear[i].index(0), want[i]);
            Due.is("next: dear, " + i, dear[i].next(), want[i] < 0 ? -1 : 0);
            dear[i].set(1, 9998);
            Due.is("next: one less, " + i, dear[i].next(), want[i] < 0 || want[i] > 9998 ? -1 : 0);
        }
    }

    /** 13333 * 9999 and 71111 * 9994 is 844000001. */
    private static void indexOfTheMost() {
        for (int cost = 843; cost <= 845; cost++) {
            HowDeep x = new HowDeep();
            x.layer(12, 0, 0);
            x.layer(8, 5, 0);
            Due.law(x, "cost " + cost + ";water base;fall 0;");
            Due.place(x, 1, 8);
            x.set(0, 1);
            x.set(1, 9999);
            Due.is("index: 844000001 less " + cost + " coins", x.index(0), cost == 843 ? 9988 : cost == 844 ? 9999 : -1);
            Due.is("best: 844000001 less " + cost + " coins", x.best(0), cost == 843 ? 1000001 : cost == 844 ? 1 : 0);
            Due.is("next: 844000001 less " + cost + " coins", x.next(), cost == 845 ? -1 : 0);
        }
    }

    // ---- promise 22: no more than WORTH, of like ones the first, not those for which best() is STATE; -1: none

    private static void nextBounds() {
        Due.is("next: no PLACES", new HowDeep().next(), -1);
        HowDeep x = one(50, 0, 10);
        x.set(0, 1);
        for (int worth : new int[] {0, 1, 20, 21, 22, 9999}) {
            x.set(1, worth);
            Due.is("next: INDEX 21, WORTH " + worth, x.next(), worth < 21 ? -1 : 0);
        }
        x.dig(0, 3);
        Due.is("next: there is water", x.next(), -1);
        x.fill(0);
        x.dig(0, 1);
        Due.is("next: it CAN'T BE", x.next(), -1);
        x.fill(0);
        x.dig(0, 0);
        Due.is("next: DEEPEST is reached", x.next(), -1);
        x.fill(0);
        Due.is("next: and there it is again", x.next(), 0);
        HowDeep free = one(100, 0, 0);
        free.set(1, 0);
        Due.is("next: INDEX 1, WORTH 0", free.next(), -1);
    }

    private static void nextAmong() {
        HowDeep x = new HowDeep();
        x.layer(50, 0, 0);
        x.layer(25, 0, 1);
        x.layer(0, 0, 2);
        Due.law(x, "cost 10;water base;fall 0;");
        x.set(0, 1);
        Due.place(x, 0, 0, 1);
        Due.place(x, 0, 1, 0);
        Due.place(x, 1, 0, 0);
        Due.place(x, 1, 0, 0);
        int[] index = {-1, 41, 21, 21};
        for (int p = 0; p < 4; p++) Due.is("next: INDEX of " + p, x.index(p), index[p]);
        Due.is("next: the least, the first of two", x.next(), 2);
        x.dig(2, 3);
        Due.is("next: the other one", x.next(), 3);
        x.dig(3, 2);
        Due.is("next: a greater one", x.next(), 1);
        x.set(1, 41);
        Due.is("next: as much as WORTH", x.next(), 1);
        x.set(1, 40);
        Due.is("next: more than WORTH", x.next(), -1);
        x.fill(3);
        Due.is("next: the last one", x.next(), 3);
        x.fill(2);
        Due.is("next: of like ones the first again", x.next(), 2);
    }

    // ---- promises 23, 24: KIND, MORE (0 .. 5), STOPS (0 .. 7); BAD; FULL; -5; -7

    private static void ruleBounds() {
        HowDeep x = new HowDeep();
        Bounds.refused("rule: KIND", 0, 5, HowDeep.BAD, v -> x.rule(v, 3, 3));
        Bounds.refused("rule: MORE", 0, 5, HowDeep.BAD, v -> x.rule(3, v, 3));
        Bounds.refused("rule: STOPS", 0, 7, HowDeep.BAD, v -> x.rule(3, 3, v));
        Due.is("rule: none came", x.count(7), 0);
        Bounds.taken("rule: KIND", 0, 5, 0, 1, v -> x.rule(v, 3, 3));
        Bounds.taken("rule: MORE", 0, 5, 2, 3, v -> x.rule(3, v, 3));
        Bounds.taken("rule: STOPS", 0, 7, 4, 5, v -> x.rule(3, 3, v));
        int[][] want = {{0, 3, 3}, {5, 3, 3}, {3, 0, 3}, {3, 5, 3}, {3, 3, 0}, {3, 3, 7}};
        for (int r = 0; r < 6; r++) {
            for (int what = 0; what < 3; what++) Due.is("ruleTold " + r + " " + what, x.ruleTold(r, what), want[r][what]);
        }
        Bounds.refused("ruleTold: r", 0, 5, -5, v -> x.ruleTold(v, 0));
        Bounds.refused("ruleTold: what", 0, 2, -7, v -> x.ruleTold(0, v));
    }

    private static void rulesFull() {
        HowDeep x = new HowDeep();
        for (int r = 0; r < 8; r++) {
            Due.is("rule: number", x.rule(r % 6, r % 5, r), r);
            Due.is("rule: there is no other yet", x.ruleTold(r + 1, 0), -5);
        }
        Due.is("rule: a ninth", x.rule(5, 5, 5), HowDeep.FULL);
        Due.is("rule: eight stay", x.count(7), 8);
        for (int r = 0; r < 8; r++) Due.is("rule: STOPS of " + r, x.ruleTold(r, 2), r);
        Due.is("rule: KIND of the last", x.ruleTold(7, 0), 1);
        Due.is("rule: MORE of the last", x.ruleTold(7, 1), 2);
    }

    // ---- promise 27: whether one digs on, k YARDS being dug, the last with a SIGN; never beyond DEEPEST

    private static void deepRules() {
        for (int more = 0; more <= 5; more++) {
            for (int deepest = 1; deepest <= 5; deepest++) {
                HowDeep x = one(50, 0, 10);
                x.set(0, deepest);
                x.rule(0, more, 0);
                x.rule(1, more, 7);
                x.rule(2, more, 6);
                x.rule(3, more, 0);
                x.rule(4, more, 5);
                x.rule(5, more, 6);
                for (int k = 0; k <= deepest; k++) {
                    String when = "goesBy: " + k + " YARDS, MORE " + more + ", DEEPEST " + deepest + ": ";
                    int deep = k < more && k < deepest ? 1 : 0;
                    Due.is(when + "RULE", x.goesBy(0, 0), 0);
                    Due.is(when + "DEEP", x.goesBy(1, 0), deep);
                    Due.is(when + "SIGN", x.goesBy(2, 0), deep);
                    Due.is(when + "BEST", x.goesBy(3, 0), k < deepest ? 1 : 0);
                    Due.is(when + "BORE", x.goesBy(4, 0), deep);
                    Due.is(when + "SHARE", x.goesBy(5, 0), k == 1 && k < deepest ? 1 : deep);
                    x.dig(0, 0);
                }
                if (deepest > 1) x.set(0, deepest - 1);
                for (int r = 0; r < 6; r++) Due.is("goesBy: DEEPEST lies above " + r, x.goesBy(r, 0), 0);
            }
        }
    }

    /** Not behind a SIGN that is in STOPS (as bits). */
    private static void signRules() {
        for (int stops = 0; stops <= 7; stops++) {
            HowDeep x = new HowDeep();
            for (int j = 0; j < 3; j++) x.layer(50, 0, j);
            Due.place(x, 1, 1, 1);
            x.rule(2, 4, stops);
            Due.is("SIGN: nothing is DUG, STOPS " + stops, x.goesBy(0, 0), 1);
            for (int sign = 0; sign <= 2; sign++) {
                x.dig(0, sign);
                Due.is("SIGN: behind " + sign + ", STOPS " + stops, x.goesBy(0, 0), (stops >> sign & 1) == 0 ? 1 : 0);
                x.fill(0);
            }
            HowDeep y = new HowDeep();
            for (int j = 0; j < 3; j++) y.layer(50, 0, j);
            for (int i = 0; i < 3; i++) for (int j = 0; j < 3; j++) y.follow(i, j, 1);
            Due.place(y, 1, 1, 1);
            y.rule(2, 4, stops);
            for (int sign = 0; sign <= 2; sign++) {
                y.dig(0, sign);
                Due.is("SIGN: the last one counts alone, STOPS " + stops, y.goesBy(0, 0), (stops >> sign & 1) == 0 ? 1 : 0);
            }
        }
    }

    /** WET of the next YARD is no less than 100000 times STOPS. */
    private static void boreRules() {
        for (int wet = 0; wet <= 100; wet++) {
            HowDeep x = one(wet, 0, 10);
            for (int stops = 0; stops <= 7; stops++) {
                x.rule(4, 1, stops);
                Due.is("BORE: " + wet + ", STOPS " + stops, x.goesBy(stops, 0), wet >= 10 * stops ? 1 : 0);
            }
        }
    }

    private static void boreJustBelow() {
        HowDeep x = new HowDeep();
        for (int j = 0; j < 3; j++) x.layer(30, 0, j);
        Due.place(x, 1, 1, 1);
        for (int stops = 2; stops <= 3; stops++) x.rule(4, 1, stops);
        Due.is("BORE: three times 99999", x.likely(0), 299997);
        Due.is("BORE: that is no less than 200000", x.goesBy(0, 0), 1);
        Due.is("BORE: but less than 300000", x.goesBy(1, 0), 0);
    }

    /** As a SIGN, and if k is 1 in any case. */
    private static void shareRules() {
        for (int more = 0; more <= 5; more++) {
            for (int stops = 0; stops <= 7; stops += 7) {
                HowDeep x = one(50, 0, 10);
                x.set(0, 5);
                x.rule(5, more, stops);
                for (int k = 0; k <= 5; k++) {
                    boolean sign = k < more && (k == 0 || stops == 0);
                    Due.is("SHARE: " + k + ", MORE " + more + ", STOPS " + stops, x.goesBy(0, 0), k < 5 && (k == 1 || sign) ? 1 : 0);
                    x.dig(0, 0);
                }
            }
        }
    }

    // ---- promise 25: NO: none such; SPENT, WATER, RUIN, GOOD

    private static void meanBounds() {
        HowDeep x = one(50, 0, 10);
        x.rule(1, 1, 0);
        x.rule(0, 0, 0);
        Bounds.refused("mean: r", 0, 1, HowDeep.NO, v -> x.mean(v, 0, 0));
        Bounds.refused("mean: what", 0, 3, HowDeep.NO, v -> x.mean(0, 0, v));
        Bounds.refused("goesBy: r", 0, 1, -5, v -> x.goesBy(v, 0));
        Bounds.taken("mean: r", 0, 1, 10000000, 0, v -> x.mean(v, 0, 0));
        Bounds.taken("mean: what", 0, 3, 10000000, 100000000, v -> x.mean(0, 0, v));
        Bounds.taken("goesBy: r", 0, 1, 1, 0, v -> x.goesBy(v, 0));
        x.dig(0, 3);
        Due.is("mean: water at the PLACE does not matter", x.mean(0, 0, 1), 500000);
        x.fill(0);
        x.dig(0, 2);
        Due.is("mean: nor what CAN'T BE", x.mean(0, 0, 1), 500000);
    }

    /** RUIN by PARTS, if all COSTS so far are above PURSE. */
    private static void ruin() {
        HowDeep x = one(50, 0, 10);
        x.rule(1, 2, 0);
        x.rule(0, 0, 0);
        int[] purse = {0, 19, 20, 21, 9999};
        for (int v : purse) {
            x.set(3, v);
            Due.is("RUIN: 20 coins, PURSE " + v, x.mean(0, 0, 2), v < 20 ? 250000 : 0);
            Due.is("RUIN: nothing spent, PURSE " + v, x.mean(1, 0, 2), 0);
        }
        HowDeep y = one(100, 0, 10);
        y.rule(1, 2, 0);
        y.set(3, 0);
        Due.is("RUIN: not where there is water", y.mean(0, 0, 2), 0);
        HowDeep free = one(0, 0, 0);
        free.rule(1, 5, 0);
        free.set(3, 0);
        Due.is("RUIN: it costs nothing", free.mean(0, 0, 2), 0);
        HowDeep dear = one(0, 0, 999);
        dear.rule(1, 5, 0);
        dear.set(0, 5);
        dear.set(3, 4994);
        Due.is("RUIN: five YARDS of 999, a coin too few", dear.mean(0, 0, 2), 1000000);
        dear.set(3, 4995);
        Due.is("RUIN: five YARDS of 999", dear.mean(0, 0, 2), 0);
        Due.is("SPENT: five YARDS of 999", dear.mean(0, 0, 0), 4995000000L);
    }

    private static void howFar() {
        for (int deepest = 1; deepest <= 5; deepest++) {
            for (int more = 0; more <= 5; more++) {
                HowDeep x = one(0, 0, 7);
                x.set(0, deepest);
                x.rule(1, more, 0);
                x.rule(2, more, 6);
                x.rule(2, more, 1);
                x.rule(4, more, 0);
                x.rule(4, more, 1);
                x.rule(5, more, 1);
                int yards = Math.min(deepest, more);
                long[] want = {yards, yards, Math.min(1, yards), yards, 0, yards > 0 ? Math.min(2, deepest) : 0};
                for (int r = 0; r < want.length; r++) {
                    Due.is("SPENT: " + r + ", MORE " + more + ", DEEPEST " + deepest, x.mean(r, 0, 0), 7000000 * want[r]);
                    Due.is("drawn: " + r + ", MORE " + more + ", DEEPEST " + deepest, x.drawn(r, 0, 9, 2), want[r]);
                }
            }
        }
    }

    /** On with PARTS times HOW MUCH (not if HOW MUCH is 0): also where that is 1. */
    private static void meanOfHardly() {
        HowDeep x = PlacesEdgesTest.hardly(99);
        x.rule(1, 4, 0);
        x.rule(1, 3, 0);
        Due.is("hardly: WATER", x.mean(0, 0, 1), 989999 + 9999 + 1);
        Due.is("hardly: SPENT", x.mean(0, 0, 0), 989999 * 30 + 9999 * 40 + 40);
        Due.is("hardly: GOOD", x.mean(0, 0, 3), 999999 * 200);
        Due.is("hardly: SPENT by three", x.mean(1, 0, 0), 989999 * 30 + 10001 * 30);
        x.set(3, 29);
        Due.is("hardly: RUIN by three", x.mean(1, 0, 2), 10001);
    }

    /** 333333 by half are 166666 of each LAYER, and times 999999 by 1000000 are 166665. */
    private static void meanCut() {
        HowDeep x = new HowDeep();
        for (int j = 0; j < 3; j++) x.layer(50, 0, 0);
        Due.law(x, "cost 10;water base*(1<yard);fall 0;");
        Due.place(x, 1, 1, 1);
        x.rule(1, 2, 0);
        x.set(3, 19);
        Due.is("cut: WATER", x.mean(0, 0, 1), 3 * 166665);
        // 999999 * 500001 by 1000000 are left
        Due.is("cut: RUIN", x.mean(0, 0, 2), 500000);
        Due.is("cut: SPENT", x.mean(0, 0, 0), 3 * 166665 * 20 + 500000 * 20);
        Due.is("cut: GOOD", x.mean(0, 0, 3), 3 * 166665 * 200);
    }

    // ---- promise 26: of like ones the first; -1: there is none; -5

    private static void rightBounds() {
        HowDeep x = one(50, 0, 10);
        Due.is("right: no RULE", x.right(0), -1);
        Due.is("right: no PLACE, nor a RULE", x.right(1), -5);
        x.rule(1, 1, 0);
        Due.is("right: one RULE", x.right(0), 0);
        x.rule(1, 1, 7);
        Due.is("right: two like ones", x.right(0), 0);
        x.rule(1, 2, 0);
        Due.is("right: a better one", x.right(0), 2);
        for (int r = 3; r < 7; r++) x.rule(2, 2, 0);
        Due.is("right: as good ones do not count", x.right(0), 2);
        x.rule(1, 5, 0);
        Due.is("right: the last of eight", x.right(0), 7);
        x.set(1, 0);
        Due.is("right: all below 0, the least loss", x.right(0), 0);
        x.set(1, 20);
        Due.is("right: all 0", x.right(0), 0);
        HowDeep y = one(0, 0, 10);
        y.rule(1, 2, 0);
        y.rule(1, 1, 0);
        Due.is("right: below 0", y.right(0), 1);
        y.rule(0, 0, 0);
        Due.is("right: 0 is above", y.right(0), 2);
        y.dig(0, 3);
        Due.is("right: as if nothing was dug", y.right(0), 2);
    }
}
