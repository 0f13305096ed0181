/** REFUSALS, of several the first one told; and a -1 that is an answer comes behind the refusal of a number. */
public final class OrderTest {
    private static final int NONE = HowDeep.NONE, BAD = HowDeep.BAD, STATE = HowDeep.STATE, FULL = HowDeep.FULL;
    private static final int NO_SUCH = -5, NOT_SO = -7, MISSING = -11, OUTSIDE = -12, UNLIKE = -13;

    public static void main(String[] args) {
        layers();
        follows();
        sets();
        texts();
        asks();
        places();
        ties();
        digs();
        tells();
        thoughts();
        judges();
        rules();
        means();
        bores();
        farms();
        joins();
        draws();
        sheets();
        copies();
        layersBys();
        takens();
        answers();
        Due.end("OrderTest");
    }

    /** All there is room for; PLACE 0 as new, at 1 there is water, at 2 what CAN'T BE, at 3 DEEPEST is reached. */
    private static HowDeep full() {
        HowDeep x = new HowDeep();
        for (int j = 0; j < 5; j++) x.layer(20 * j, j, j % 2);
        for (int p = 0; p < 4; p++) Due.place(x, 1, 1, 1, 1, 1);
        for (int r = 0; r < 8; r++) x.rule(r % 6, 3, 4);
        for (int f = 0; f < 6; f++) x.farm(10 * f, 1);
        for (int t = 1; t < 6; t++) Due.text(x, "cost 10;water base;fall 5;");
        for (int i = 0; i < 20; i++) x.feed('#', 8);
        x.dig(1, 3);
        x.dig(2, 2);
        for (int y = 0; y < 4; y++) x.dig(3, 0);
        x.sheet(3, -1, 0);
        Due.sheet(x, 0, 2, 1, 1, 1, 1, 1);
        Due.sheet(x, 1, 1, 1, 1, 1, 1, 1, 1);
        return x;
    }

    private static void layers() {
        HowDeep x = full();
        for (int[] bad : new int[][] {{-1, 0, 0}, {101, 0, 0}, {0, -1, 0}, {0, 10, 0}, {0, 0, -1}, {0, 0, 3}}) {
            Due.is("layer: BAD, FULL, STATE", x.layer(bad[0], bad[1], bad[2]), BAD);
            HowDeep y = new HowDeep();
            y.layer(1, 1, 1);
            Due.place(y, 1);
            Due.is("layer: BAD, STATE", y.layer(bad[0], bad[1], bad[2]), BAD);
            Due.is("layer: STATE", y.layer(0, 0, 0), STATE);
        }
        Due.is("layer: FULL, STATE", x.layer(0, 0, 0), FULL);
    }

    private static void follows() {
        HowDeep x = full();
        for (int v : new int[] {-1, 10}) {
            Due.is("follow: NONE by i, BAD", x.follow(5, 0, v), NONE);
            Due.is("follow: NONE by j, BAD", x.follow(0, 5, v), NONE);
            Due.is("follow: NONE by both, BAD", x.follow(-1, -1, v), NONE);
            Due.is("follow: BAD", x.follow(4, 4, v), BAD);
        }
    }

    private static void sets() {
        HowDeep x = full();
        for (int v : new int[] {-1, 10000, Integer.MIN_VALUE, Integer.MAX_VALUE}) {
            Due.is("set: NONE, BAD", x.set(5, v), NONE);
            Due.is("set: NONE below, BAD", x.set(-1, v), NONE);
            Due.is("set: BAD", x.set(4, v), BAD);
        }
    }

    private static void texts() {
        HowDeep x = full();
        for (int n : new int[] {-1, 0, 9}) Due.is("feed: BAD, FULL", x.feed(0, n), BAD);
        Due.is("feed: FULL", x.feed(0, 1), FULL);
        Due.is("text: FULL, a FAULT", x.text(), FULL);
    }

    private static void asks() {
        HowDeep x = full();
        for (int j : new int[] {-1, 5}) {
            Due.is("asks: part, no LAYER", x.asks(3, 1, j, 0), BAD);
            Due.is("asks: YARD, no LAYER", x.asks(1, 0, j, 0), BAD);
            Due.is("asks: YARD beyond, no LAYER", x.asks(1, 6, j, 0), BAD);
            Due.is("asks: lined, no LAYER", x.asks(1, 1, j, 2), BAD);
            Due.is("asks: no LAYER", x.asks(1, 1, j, 1), NO_SUCH);
        }
    }

    private static void places() {
        HowDeep x = full();
        Due.is("place: no SHEET, FULL", x.place(4), BAD);
        Due.is("place: a missing SHEET, FULL", x.place(3), MISSING);
        Due.is("place: its size, FULL", x.place(1), BAD);
        x.cell(0, 4, 100);
        Due.is("place: a number, FULL", x.place(0), BAD);
        x.cell(0, 4, 99);
        Due.is("place: FULL", x.place(0), FULL);
        HowDeep y = new HowDeep();
        Due.is("place: a missing SHEET, no LAYERS", y.place(0), MISSING);
        Due.is("place: no SHEET, no LAYERS", y.place(4), BAD);
    }

    private static void ties() {
        HowDeep x = full();
        for (int v : new int[] {-1, 101}) {
            Due.is("ties: NONE by p, BAD", x.ties(4, 0, v), NONE);
            Due.is("ties: NONE by q, BAD", x.ties(0, -1, v), NONE);
            Due.is("ties: alike, BAD", x.ties(3, 3, v), NONE);
            Due.is("ties: BAD", x.ties(3, 2, v), BAD);
        }
    }

    private static void digs() {
        HowDeep x = full();
        for (int sign : new int[] {-1, 4}) {
            Due.is("dig: NONE, BAD", x.dig(4, sign), NONE);
            Due.is("dig: NONE below, BAD", x.dig(-1, sign), NONE);
            Due.is("dig: BAD, there is water", x.dig(1, sign), BAD);
            Due.is("dig: BAD, DEEPEST is reached", x.dig(3, sign), BAD);
        }
        Due.is("dig: there is water", x.dig(1, 0), STATE);
        Due.is("dig: DEEPEST is reached", x.dig(3, 3), STATE);
    }

    private static void tells() {
        HowDeep x = full();
        for (int what : new int[] {-1, 12}) {
            Due.is("told: no PLACE, what", x.told(4, what), NO_SUCH);
            Due.is("told: no PLACE below, what", x.told(-1, what), NO_SUCH);
            Due.is("told: what", x.told(0, what), NOT_SO);
        }
        for (int what : new int[] {-1, 3}) {
            Due.is("ruleTold: no RULE, what", x.ruleTold(8, what), NO_SUCH);
            Due.is("ruleTold: no RULE below, what", x.ruleTold(-1, what), NO_SUCH);
            Due.is("ruleTold: what", x.ruleTold(7, what), NOT_SO);
        }
    }

    private static void thoughts() {
        HowDeep x = full();
        for (int j : new int[] {-1, 5}) {
            Due.is("think: no LAYER, CAN'T BE", x.think(2, j), HowDeep.NO);
            Due.is("think: neither", x.think(4, j), HowDeep.NO);
        }
        Due.is("think: CAN'T BE", x.think(2, 4), STATE);
        x.set(0, 1);
        Due.is("likely: CAN'T BE, DEEPEST is reached", x.likely(2), STATE);
        Due.is("likely: DEEPEST is reached", x.likely(3), 0);
        Due.is("best: CAN'T BE, DEEPEST is reached", x.best(2), STATE);
        Due.is("back: CAN'T BE, DEEPEST is reached", x.back(2), STATE);
        Due.is("index: CAN'T BE, DEEPEST is reached", x.index(2), STATE);
        Due.is("goesBy: CAN'T BE, DEEPEST is reached", x.goesBy(1, 2), STATE);
        Due.is("bore: CAN'T BE, DEEPEST is reached", x.bore(2, 0), STATE);
        Due.is("far: CAN'T BE, DEEPEST is reached", x.far(2, 0), STATE);
        Due.is("diviner: CAN'T BE, DEEPEST is reached", x.diviner(2, 0), STATE);
        Due.is("believe: CAN'T BE, DEEPEST is reached", x.believe(2), STATE);
    }

    private static void judges() {
        HowDeep x = full();
        Due.is("judge: no PLACE, no SHEET", x.judge(4, 4), NO_SUCH);
        Due.is("judge: no PLACE, a missing SHEET", x.judge(4, 3), NO_SUCH);
        Due.is("judge: no PLACE, more than DEEPEST", x.judge(-1, 0), NO_SUCH);
        Due.is("judge: no SHEET", x.judge(0, 4), BAD);
        Due.is("judge: a missing SHEET", x.judge(0, 3), MISSING);
        x.cell(0, 0, 7);
        Due.is("judge: more than DEEPEST, no SIGN", x.judge(0, 0), BAD);
        Due.is("row: more than DEEPEST, no SIGN", x.row(0, 0), HowDeep.NO);
        x.set(0, 5);
        Due.is("judge: no SIGN", x.judge(0, 0), 0);
        Due.is("row: no SIGN", x.row(0, 0), 0);
        Due.is("row: no PLACE, no SIGN", x.row(4, 0), HowDeep.NO);
    }

    private static void rules() {
        HowDeep x = full();
        for (int[] bad : new int[][] {{-1, 0, 0}, {6, 0, 0}, {0, -1, 0}, {0, 6, 0}, {0, 0, -1}, {0, 0, 8}}) {
            Due.is("rule: BAD, FULL", x.rule(bad[0], bad[1], bad[2]), BAD);
        }
        Due.is("rule: FULL", x.rule(0, 0, 0), FULL);
    }

    private static void means() {
        HowDeep x = full();
        Due.is("goesBy: no RULE, no PLACE", x.goesBy(8, 4), NO_SUCH);
        for (int p = 1; p <= 2; p++) {
            Due.is("goesBy: no RULE, STATE", x.goesBy(8, p), NO_SUCH);
            Due.is("goesBy: no RULE below, STATE", x.goesBy(-1, p), NO_SUCH);
            Due.is("goesBy: STATE", x.goesBy(7, p), STATE);
        }
        Due.is("mean: neither", x.mean(8, 4, 4), HowDeep.NO);
        Due.is("right: no PLACE", x.right(4), NO_SUCH);
        Due.is("right: no PLACE, no RULE", new HowDeep().right(0), NO_SUCH);
    }

    private static void bores() {
        HowDeep x = full();
        for (int p = 1; p <= 2; p++) {
            for (int n : new int[] {-1, 6}) Due.is("bore: NO, STATE", x.bore(p, n), HowDeep.NO);
            for (int r : new int[] {-1, 101}) Due.is("diviner: NO, STATE", x.diviner(p, r), HowDeep.NO);
            for (int c : new int[] {-1, 1000}) {
                Due.is("far: no PLACE, cost", x.far(4, c), NO_SUCH);
                Due.is("far: no PLACE below, cost", x.far(-1, c), NO_SUCH);
                Due.is("far: cost, STATE", x.far(p, c), NOT_SO);
                Due.is("far: cost", x.far(0, c), NOT_SO);
            }
            Due.is("far: STATE", x.far(p, 0), STATE);
        }
        for (int r : new int[] {-1, 101}) Due.is("diviner: NO, DEEPEST is reached", x.diviner(3, r), HowDeep.NO);
        for (int n : new int[] {-1, 6}) Due.is("bore: NO, DEEPEST is reached", x.bore(3, n), HowDeep.NO);
        for (int c : new int[] {-1, 1000}) Due.is("far: cost, DEEPEST is reached", x.far(3, c), NOT_SO);
    }

    private static void farms() {
        HowDeep x = full();
        for (int[] bad : new int[][] {{-1, 1}, {100, 1}, {1, 0}, {1, 100}}) Due.is("farm: BAD, FULL", x.farm(bad[0], bad[1]), BAD);
        Due.is("farm: FULL", x.farm(0, 1), FULL);
    }

    private static void joins() {
        HowDeep x = full();
        for (int depth : new int[] {0, 6}) {
            Due.is("join: depth, a missing SHEET", x.join(3, depth), BAD);
            Due.is("join: depth", x.join(1, depth), BAD);
            Due.is("join: no SHEET, depth", x.join(4, depth), BAD);
        }
        Due.is("join: a missing SHEET", x.join(3, 1), MISSING);
        Due.is("join: its size", x.join(0, 1), BAD);
        x.cell(1, 5, -1);
        Due.is("join: a number, though others pay too much", x.join(1, 1), BAD);
        HowDeep none = new HowDeep();
        Due.is("join: no FARMS, a missing SHEET", none.join(0, 1), MISSING);
        none.sheet(0, 2, 0);
        Due.is("join: no FARMS, depth", none.join(0, 0), BAD);
        Due.is("join: no FARMS, no SHEET", none.join(4, 1), BAD);
        none.sheet(0, 2, 1);
        Due.is("join: no FARMS, its size", none.join(0, 1), BAD);
    }

    private static void draws() {
        HowDeep x = full();
        for (int bad : new int[] {-1, 100000}) {
            Due.is("drawn: no RULE, SEED", x.drawn(8, 0, bad, 0), NO_SUCH);
            Due.is("drawn: no PLACE, SEED", x.drawn(0, 4, bad, 0), NO_SUCH);
            Due.is("drawn: no RULE, what", x.drawn(-1, 0, 0, bad), NO_SUCH);
            Due.is("drawn: no PLACE, what", x.drawn(0, -1, 0, bad), NO_SUCH);
            Due.is("drawn: SEED, what", x.drawn(0, 0, bad, 3), NOT_SO);
        }
    }

    private static void sheets() {
        HowDeep x = full();
        Due.is("sheet: no SHEET, size below 0", x.sheet(4, 2, -1), BAD);
        Due.is("sheet: no SHEET below, size below 0", x.sheet(-1, 2, -1), BAD);
        Due.is("sheet: no sort, size below 0", x.sheet(0, 3, -1), BAD);
        Due.is("sheet: no sort below, size below 0", x.sheet(0, -2, -1), BAD);
        Due.is("cell: no SHEET, no place", x.cell(4, -1, 0), BAD);
        Due.is("cell: a missing SHEET, no place", x.cell(3, -1, 0), MISSING);
        Due.is("cell: no place", x.cell(0, -1, 0), OUTSIDE);
    }

    private static void copies() {
        HowDeep x = full();
        Due.is("copy: no SHEET, a missing one", x.copy(4, 0, 3, 0, 1), BAD);
        Due.is("copy: a missing one, no SHEET", x.copy(3, 0, 4, 0, 1), BAD);
        Due.is("copy: no SHEET, no place", x.copy(0, -1, -1, -1, -1), BAD);
        Due.is("copy: a missing one, no place", x.copy(0, -1, 3, -1, -1), MISSING);
        Due.is("copy: from a missing one, no place", x.copy(3, -1, 0, -1, -1), MISSING);
        Due.is("copy: unlike sorts, no place", x.copy(0, -1, 1, 0, 1), UNLIKE);
        Due.is("copy: unlike sorts, no place there", x.copy(0, 0, 1, 9, 1), UNLIKE);
        Due.is("copy: unlike sorts, n below 0", x.copy(1, 0, 0, 0, -1), UNLIKE);
        Due.is("copy: n below 0", x.copy(0, 0, 0, 0, -1), OUTSIDE);
    }

    private static void layersBys() {
        HowDeep x = full();
        Due.is("layersBy: no sort, a missing SHEET", x.layersBy(3, 3, 0, 1), BAD);
        Due.is("layersBy: no sort below, a missing SHEET", x.layersBy(3, -1, 0, 1), BAD);
        Due.is("layersBy: n, a missing SHEET", x.layersBy(3, 2, 0, 6), BAD);
        Due.is("layersBy: n below 0, a missing SHEET", x.layersBy(3, 2, 0, -1), BAD);
        Due.is("layersBy: n, another sort", x.layersBy(0, 1, 0, 6), BAD);
        Due.is("layersBy: n, no place", x.layersBy(0, 2, -1, 6), BAD);
        Due.is("layersBy: a missing SHEET, no place", x.layersBy(3, 2, -1, 1), MISSING);
        Due.is("layersBy: another sort, no place", x.layersBy(0, 1, -1, 1), UNLIKE);
        Due.is("layersBy: no place, though all are left out", x.layersBy(0, 2, 3, 1), OUTSIDE);
    }

    private static void takens() {
        HowDeep x = new HowDeep();
        x.layer(1, 1, 1);
        x.rule(0, 0, 0);
        for (int i : new int[] {-1, 13, 1, 6, 0, 5}) {
            Due.is("taken: BAD at " + i, x.taken(i, 7), BAD);
            Due.is("taken: BAD below at " + i, x.taken(i, -1), BAD);
        }
        for (int kind = 0; kind <= 6; kind++) {
            Due.is("taken: outside", x.taken(13, kind), OUTSIDE);
            Due.is("taken: nothing where LAYERS lie", x.taken(4, kind), MISSING);
            Due.is("taken: nothing where RULES lie", x.taken(6, kind), MISSING);
        }
        Due.is("taken: a LAYER as a RULE", x.taken(0, 0), UNLIKE);
        Due.is("taken: a RULE as a LAYER", x.taken(5, 6), UNLIKE);
    }

    /** A -1 that is an answer comes behind the refusal of a number. */
    private static void answers() {
        HowDeep x = full();
        Due.is("told: no SIGN", x.told(0, 2), -1);
        Due.is("told: no SIGN of no PLACE", x.told(4, 2), NO_SUCH);
        Due.is("index: none", x.index(3), -1);
        Due.is("index: none of no PLACE", x.index(4), NO_SUCH);
        Due.is("index: none where there is water", x.index(1), STATE);
        Due.is("believe: none", x.believe(3), -1);
        Due.is("believe: none of no PLACE", x.believe(4), NO_SUCH);
        Due.is("believe: none where there is water", x.believe(1), STATE);
        Due.is("drawn: none", x.drawn(0, 0, 0, 1), -1);
        Due.is("drawn: none by no RULE", x.drawn(8, 0, 0, 1), NO_SUCH);
        x.sheet(2, 2, 0);
        Due.is("judge: none", x.judge(0, 2), -1);
        Due.is("judge: none of no PLACE", x.judge(4, 2), NO_SUCH);
        HowDeep y = new HowDeep();
        y.layer(1, 1, 1);
        Due.place(y, 1);
        Due.is("right: none", y.right(0), -1);
        Due.is("right: none of no PLACE", y.right(1), NO_SUCH);
        y.sheet(0, 2, 0);
        Due.is("join: neither", y.join(0, 5), -1);
        Due.is("join: neither by no depth", y.join(0, 6), BAD);
    }
}
