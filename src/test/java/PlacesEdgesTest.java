/** Promises 10 to 18: PLACES, TIES, what is DUG and THOUGHT, rows of SIGNS, at their bounds. */
public final class PlacesEdgesTest {
    public static void main(String[] args) {
        placeSheets();
        placeSizes();
        placeNumbers();
        placesFull();
        placeWithoutLayers();
        firstCounts();
        tieBounds();
        digBounds();
        digDeepest();
        digWater();
        digAnything();
        fillBounds();
        toldBounds();
        toldFull();
        thinkBounds();
        thinkBehind();
        likelyBounds();
        likelyDeepest();
        cantBe();
        hardlyBe();
        judgeBounds();
        judgeSizes();
        judgeSigns();
        rowCut();
        Due.end("PlacesEdgesTest");
    }

    private static HowDeep layers(int n) {
        HowDeep x = new HowDeep();
        for (int j = 0; j < n; j++) x.layer(10 * j, 0, j % 3);
        return x;
    }

    // ---- promise 10: BAD: SHEET; -11; BAD: its size, no LAYERS, a number; FULL

    private static void placeSheets() {
        HowDeep x = layers(2);
        for (int s = 0; s < 4; s++) Due.sheet(x, s, s % 3, s, 7);
        Bounds.refused("place: SHEET", 0, 3, HowDeep.BAD, s -> x.place(s));
        Bounds.taken("place: SHEET", 0, 3, 0, 1, s -> x.place(s));
        Due.is("place: by SHEET 3", x.told(1, 7), 3);
        x.sheet(3, -1, 0);
        Due.is("place: a SHEET that went", x.place(3), -11);
        Due.is("place: two came", x.count(6), 2);
    }

    private static void placeSizes() {
        for (int n = 1; n <= 5; n++) {
            HowDeep x = layers(n);
            for (int size : new int[] {0, n - 1, n + 1, 6, 40}) {
                x.sheet(0, 2, size);
                if (size != n) Due.is("place: " + n + " LAYERS, by " + size, x.place(0), HowDeep.BAD);
            }
            Due.is("place: none came", x.count(6), 0);
            x.sheet(0, 2, n);
            Due.is("place: " + n + " LAYERS, by as many", x.place(0), 0);
        }
    }

    private static void placeNumbers() {
        for (int at = 0; at < 5; at++) {
            HowDeep x = layers(5);
            int i = at;
            x.sheet(0, 2, 5);
            Bounds.refused("place: number " + at, 0, 99, HowDeep.BAD, v -> {
                x.cell(0, i, v);
                return x.place(0);
            });
            Due.is("place: none came by these", x.count(6), 0);
            Bounds.taken("place: number " + at, 0, 99, 0, 1, v -> {
                x.cell(0, i, v);
                return x.place(0);
            });
            Due.is("place: FIRST 0", x.told(0, 7 + at), 0);
            Due.is("place: FIRST 99", x.told(1, 7 + at), 99);
        }
        HowDeep y = layers(1);
        for (int v : new int[] {100, 127, 128, 255, -1}) {
            Due.sheet(y, 0, 0, v);
            Due.is("place: byte " + v, y.place(0), HowDeep.BAD);
            Due.sheet(y, 0, 1, v);
            Due.is("place: short " + v, y.place(0), HowDeep.BAD);
        }
    }

    private static void placesFull() {
        HowDeep x = layers(2);
        for (int p = 0; p < 4; p++) Due.is("place: number", Due.place(x, p, 9 - p), p);
        Due.is("place: a fifth", Due.place(x, 9, 9), HowDeep.FULL);
        Due.is("place: four stay", x.count(6), 4);
        for (int p = 0; p < 4; p++) Due.is("place: FIRST stays", x.told(p, 7), p);
        Due.is("place: there is no fifth", x.told(4, 0), -5);
    }

    private static void placeWithoutLayers() {
        HowDeep x = new HowDeep();
        for (int size : new int[] {0, 1, 5}) {
            x.sheet(0, 2, size);
            Due.is("place: no LAYERS, by " + size, x.place(0), HowDeep.BAD);
        }
        Due.is("place: no LAYERS, nor a SHEET", x.place(1), -11);
        Due.is("place: none", x.count(6), 0);
    }

    /** FIRST times 1000000 by all together; if these are 0: 1000000 by how many LAYERS there are. */
    private static void firstCounts() {
        int[] like = {1000000, 500000, 333333, 250000, 200000};
        for (int n = 1; n <= 5; n++) {
            HowDeep x = layers(n);
            x.sheet(0, 2, n);
            x.place(0);
            for (int j = 0; j < n; j++) x.cell(0, j, 99);
            x.place(0);
            for (int j = 0; j < n; j++) {
                Due.is("FIRST: all 0 of " + n, x.think(0, j), like[n - 1]);
                Due.is("FIRST: all 99 of " + n, x.think(1, j), like[n - 1]);
            }
        }
        HowDeep y = layers(5);
        Due.place(y, 99, 99, 99, 99, 1);
        Due.place(y, 0, 0, 0, 0, 1);
        Due.is("FIRST: 99 of 397", y.think(0, 0), 249370);
        Due.is("FIRST: 1 of 397", y.think(0, 4), 2518);
        Due.is("FIRST: 1 of 1", y.think(1, 4), 1000000);
        Due.is("FIRST: 0 of 1", y.think(1, 0), 0);
    }

    // ---- promise 11: NONE (alike, too); BAD: TIES (0 .. 100; 0 at first)

    private static void tieBounds() {
        HowDeep x = layers(1);
        for (int p = 0; p < 4; p++) Due.place(x, 1);
        Bounds.refused("ties: p", 0, 3, HowDeep.NONE, v -> x.ties(v, 1, 50));
        Bounds.refused("ties: q", 0, 3, HowDeep.NONE, v -> x.ties(1, v, 50));
        Bounds.refused("ties: v", 0, 100, HowDeep.BAD, v -> x.ties(0, 1, v));
        for (int p = 0; p < 4; p++) Due.is("ties: alike " + p, x.ties(p, p, 50), HowDeep.NONE);
        for (int p = 0; p < 4; p++) {
            for (int q = 0; q < p; q++) Due.is("ties: 0 at first", x.ties(p, q, 10 * p + q), 0);
        }
        for (int p = 0; p < 4; p++) {
            for (int q = 0; q < p; q++) Due.is("ties: either way", x.ties(q, p, 100), 10 * p + q);
        }
        Due.is("ties: 100 was taken", x.ties(3, 2, 0), 100);
        Due.is("ties: 0 was taken", x.ties(2, 3, 0), 0);
        HowDeep two = layers(1);
        for (int p = 0; p < 2; p++) Due.place(two, 1);
        Bounds.refused("ties: q of two", 0, 1, HowDeep.NONE, v -> two.ties(0, v, 50));
    }

    // ---- promise 12: a SIGN (0 .. 2), or (3) water; NONE; BAD; STATE: there is water, DEEPEST is reached

    private static void digBounds() {
        HowDeep x = layers(3);
        Due.place(x, 1, 1, 1);
        Due.place(x, 1, 1, 1);
        Bounds.refused("dig: p", 0, 1, HowDeep.NONE, v -> x.dig(v, 0));
        Bounds.refused("dig: SIGN", 0, 3, HowDeep.BAD, v -> x.dig(0, v));
        Due.is("dig: nothing is DUG", x.told(0, 0), 0);
        Due.is("dig: no water", x.told(0, 1), 0);
        Due.is("dig: SIGN 2", x.dig(0, 2), 1);
        Due.is("dig: SIGN 0", x.dig(0, 0), 2);
        Due.is("dig: water", x.dig(0, 3), 2);
        Due.is("dig: at the other one", x.dig(1, 1), 1);
        Due.is("dig: SIGN 2 is told", x.told(0, 2), 2);
        Due.is("dig: SIGN 0 is told", x.told(0, 3), 0);
        Due.is("dig: SIGN 1 is told", x.told(1, 2), 1);
    }

    private static void digDeepest() {
        for (int deepest = 1; deepest <= 5; deepest++) {
            HowDeep x = layers(1);
            Due.place(x, 1);
            Due.place(x, 1);
            x.set(0, deepest);
            for (int y = 1; y <= deepest; y++) Due.is("dig: YARD " + y + " of " + deepest, x.dig(0, 0), y);
            for (int shows = 0; shows <= 3; shows++) {
                Due.is("dig: " + deepest + " is reached, " + shows, x.dig(0, shows), HowDeep.STATE);
            }
            for (int y = 1; y < deepest; y++) x.dig(1, 0);
            Due.is("dig: water in the last of " + deepest, x.dig(1, 3), deepest - 1);
            Due.is("dig: none but that", x.told(0, 0), deepest);
        }
        HowDeep y = layers(1);
        Due.place(y, 1);
        for (int i = 0; i < 4; i++) y.dig(0, 0);
        y.set(0, 2);
        Due.is("dig: DEEPEST lies above what is DUG", y.dig(0, 0), HowDeep.STATE);
        Due.is("dig: what is DUG stays", y.told(0, 0), 4);
        y.set(0, 4);
        Due.is("dig: DEEPEST is reached again", y.dig(0, 0), HowDeep.STATE);
        y.set(0, 5);
        Due.is("dig: one more", y.dig(0, 0), 5);
        Due.is("dig: no sixth", y.dig(0, 0), HowDeep.STATE);
    }

    private static void digWater() {
        HowDeep x = layers(1);
        Due.place(x, 1);
        Due.is("dig: water in YARD 1", x.dig(0, 3), 0);
        for (int shows = 0; shows <= 3; shows++) Due.is("dig: there is water", x.dig(0, shows), HowDeep.STATE);
        Due.is("dig: none is dry", x.told(0, 0), 0);
        Due.is("dig: water stays", x.told(0, 1), 1);
        Due.is("fill: none was dry", x.fill(0), 0);
        Due.is("dig: no water any more", x.dig(0, 0), 1);
    }

    /** What was shown need not be what can be. */
    private static void digAnything() {
        HowDeep x = layers(1);
        Due.place(x, 1);
        Due.is("dig: a SIGN of no LAYER", x.dig(0, 2), 1);
        Due.is("dig: and on behind it", x.dig(0, 1), 2);
        Due.is("dig: water behind it", x.dig(0, 3), 2);
    }

    // ---- promise 13: NONE; nothing is DUG any more

    private static void fillBounds() {
        HowDeep x = layers(1);
        Due.place(x, 1);
        Due.place(x, 1);
        x.set(0, 5);
        for (int y = 1; y <= 5; y++) x.dig(0, 0);
        x.dig(1, 0);
        Bounds.refused("fill: p", 0, 1, HowDeep.NONE, v -> x.fill(v));
        Bounds.taken("fill: p", 0, 1, 5, 1, v -> x.fill(v));
        Bounds.taken("fill: nothing, p", 0, 1, 0, 0, v -> x.fill(v));
        for (int y = 1; y <= 5; y++) Due.is("fill: no SIGN " + y, x.told(0, y + 1), -1);
        x.dig(0, 0);
        x.fill(1);
        Due.is("fill: the other one stays", x.told(0, 0), 1);
        x.set(0, 1);
        Due.is("fill: DEEPEST does not matter", x.fill(0), 1);
    }

    // ---- promise 14: -5: no such PLACE; -7: what

    private static void toldBounds() {
        HowDeep x = layers(2);
        Due.place(x, 3, 4);
        Due.place(x, 5, 6);
        Bounds.refused("told: p", 0, 1, -5, v -> x.told(v, 0));
        Bounds.refused("told: what", 0, 11, -7, v -> x.told(0, v));
        Bounds.taken("told: FIRST by p", 0, 1, 3, 5, v -> x.told(v, 7));
        Bounds.taken("told: what", 0, 11, 0, 0, v -> x.told(0, v));
        for (int what = 2; what <= 6; what++) Due.is("told: no SIGN yet " + what, x.told(0, what), -1);
        Due.is("told: FIRST of the last LAYER", x.told(0, 8), 4);
        Due.is("told: FIRST of no LAYER", x.told(0, 9), 0);
    }

    private static void toldFull() {
        HowDeep x = layers(5);
        Due.place(x, 11, 12, 13, 14, 99);
        x.set(0, 5);
        int[] shown = {2, 1, 0, 1, 2};
        for (int y = 1; y <= 5; y++) {
            Due.is("told: none in YARD " + y, x.told(0, y + 1), -1);
            x.dig(0, shown[y - 1]);
            Due.is("told: the SIGN of YARD " + y, x.told(0, y + 1), shown[y - 1]);
            Due.is("told: YARDS", x.told(0, 0), y);
        }
        int[] want = {5, 0, 2, 1, 0, 1, 2, 11, 12, 13, 14, 99};
        for (int what = 0; what < want.length; what++) Due.is("told: what " + what, x.told(0, what), want[what]);
        x.fill(0);
        for (int y = 1; y <= 4; y++) x.dig(0, 1);
        x.dig(0, 3);
        Due.is("told: water shows no SIGN", x.told(0, 6), -1);
        Due.is("told: water in YARD 5", x.told(0, 1), 1);
        Due.is("told: four are dry", x.told(0, 0), 4);
    }

    // ---- promise 15: NO: none such; STATE: what was shown CAN'T BE

    private static void thinkBounds() {
        HowDeep x = layers(3);
        Due.place(x, 1, 0, 3);
        Due.place(x, 2, 2, 0);
        Bounds.refused("think: p", 0, 1, HowDeep.NO, v -> x.think(v, 0));
        Bounds.refused("think: j", 0, 2, HowDeep.NO, v -> x.think(0, v));
        Bounds.taken("think: p", 0, 1, 250000, 500000, v -> x.think(v, 0));
        Bounds.taken("think: j", 0, 2, 250000, 750000, v -> x.think(0, v));
        x.dig(0, 1);
        Bounds.taken("think: CAN'T BE, j", 0, 2, HowDeep.STATE, HowDeep.STATE, v -> x.think(0, v));
        Bounds.refused("think: NO ahead of STATE, j", 0, 2, HowDeep.NO, v -> x.think(0, v));
        Due.is("think: the other one can be", x.think(1, 1), 500000);
    }

    /** Behind a DRY YARD: by what follows; all its PARTS stay, if nothing follows it. */
    private static void thinkBehind() {
        HowDeep x = new HowDeep();
        for (int j = 0; j < 3; j++) x.layer(0, 0, 0);
        Due.place(x, 1, 1, 1);
        x.dig(0, 0);
        // 333333 three times of 999999, MADE WHOLE
        for (int j = 0; j < 3; j++) Due.is("think: nothing follows", x.think(0, j), 333333);
        x.follow(0, 1, 1);
        Due.is("think: nothing is left of what another follows", x.think(0, 0), 0);
        Due.is("think: it came to that", x.think(0, 1), 666666);
        Due.is("think: others stay", x.think(0, 2), 333333);
        x.follow(0, 0, 9);
        x.follow(0, 2, 9);
        // 333333 * 9 / 19 and 333333 / 19
        Due.is("think: 9 of 19", x.think(0, 0), 157894);
        Due.is("think: 1 of 19", x.think(0, 1), 333333 + 17543);
        Due.is("think: 9 of 19 more", x.think(0, 2), 333333 + 157894);
        x.follow(0, 0, 0);
        x.follow(0, 1, 0);
        x.follow(0, 2, 0);
        Due.is("think: nothing follows again", x.think(0, 0), 333333);
        x.set(0, 5);
        for (int y = 2; y <= 5; y++) x.dig(0, 0);
        Due.is("think: behind the fifth YARD", x.think(0, 2), 333333);
    }

    // ---- promise 16: WET of the next YARD (0: DEEPEST is reached); NO; STATE

    private static void likelyBounds() {
        HowDeep x = new HowDeep();
        x.layer(100, 0, 0);
        x.layer(0, 0, 1);
        Due.place(x, 1, 0);
        Due.place(x, 0, 1);
        Due.place(x, 1, 2);
        Bounds.refused("likely: p", 0, 2, HowDeep.NO, v -> x.likely(v));
        Due.is("likely: all of it", x.likely(0), 1000000);
        Due.is("likely: none of it", x.likely(1), 0);
        Due.is("likely: a third", x.likely(2), 333333);
        x.dig(0, 0);
        Due.is("likely: it had been wet", x.likely(0), HowDeep.STATE);
        x.dig(1, 0);
        Due.is("likely: it was not there", x.likely(1), HowDeep.STATE);
        x.dig(2, 2);
        Due.is("likely: no LAYER shows it", x.likely(2), HowDeep.STATE);
    }

    private static void likelyDeepest() {
        for (int deepest = 1; deepest <= 5; deepest++) {
            HowDeep x = new HowDeep();
            x.layer(30, 0, 0);
            Due.place(x, 1);
            x.set(0, deepest);
            for (int y = 1; y <= deepest; y++) {
                Due.is("likely: YARD " + y + " of " + deepest, x.likely(0), 300000);
                x.dig(0, 0);
            }
            Due.is("likely: " + deepest + " is reached", x.likely(0), 0);
            if (deepest > 1) x.set(0, deepest - 1);
            Due.is("likely: DEEPEST lies above it", x.likely(0), 0);
        }
    }

    /** It CAN'T BE, if HOW MUCH is 0 for a SIGN that was shown, in whichever YARD. */
    private static void cantBe() {
        for (int wrong = 1; wrong <= 5; wrong++) {
            HowDeep x = new HowDeep();
            x.layer(99, 0, 0);
            x.layer(0, 0, 1);
            Due.place(x, 1, 0);
            x.set(0, 5);
            Due.sheet(x, 0, 2, 0, 0, 0, 0, 0);
            x.cell(0, wrong - 1, 1);
            for (int y = 1; y <= 5; y++) {
                x.dig(0, y == wrong ? 1 : 0);
                long due = y >= wrong ? HowDeep.STATE : 1000000;
                Due.is("CAN'T BE in YARD " + wrong + ": think behind " + y, x.think(0, 0), due);
                if (y < 5) Due.is("CAN'T BE in YARD " + wrong + ": likely behind " + y, x.likely(0), Math.min(due, 990000));
            }
            Due.is("CAN'T BE: likely, though DEEPEST is reached", x.likely(0), HowDeep.STATE);
            Due.is("CAN'T BE: judge", x.judge(0, 0), wrong - 1);
            Due.is("CAN'T BE: row", x.row(0, 0), 0);
        }
    }

    /**
     * A ground where HOW MUCH is 1 for SIGN 1 in YARD 3, if that is WET by 99 of 100, and 0, if by 100. Of 1000000 PARTS
     * LAYER 0 has 8000 in YARD 1; LAYER 3 has 800 in YARD 2; LAYER 4, of SIGN 1, has 80 in YARD 3, 79 of them WET.
     */
    static HowDeep hardly(int wet) {
        HowDeep x = new HowDeep();
        for (int j = 0; j < 5; j++) x.layer(0, 0, j == 4 ? 1 : 0);
        x.follow(0, 0, 9);
        x.follow(0, 3, 1);
        x.follow(3, 3, 9);
        x.follow(3, 4, 1);
        Due.place(x, 1, 99, 25, 0, 0);
        Due.law(x, "cost 10;water " + wet + "*(yard=3)+100*(yard=4);fall 0;");
        x.dig(0, 0);
        x.dig(0, 0);
        return x;
    }

    private static void hardlyBe() {
        HowDeep x = hardly(99);
        int[] parts = {6480, 792000, 200000, 1440, 80};
        for (int j = 0; j < 5; j++) Due.is("hardly: YARD 3", x.think(0, j), parts[j]);
        Due.sheet(x, 0, 2, 0, 0, 1);
        Due.is("hardly: judge", x.judge(0, 0), -1);
        Due.is("hardly: row", x.row(0, 0), 1);
        x.dig(0, 1);
        Due.is("hardly: think", x.think(0, 4), 1000000);
        Due.is("hardly: think of others", x.think(0, 1), 0);
        Due.is("hardly: likely", x.likely(0), 1000000);
        HowDeep y = hardly(100);
        Due.sheet(y, 0, 2, 0, 0, 1);
        Due.is("not at all: judge", y.judge(0, 0), 2);
        Due.is("not at all: row", y.row(0, 0), 0);
        y.dig(0, 1);
        Due.is("not at all: think", y.think(0, 4), HowDeep.STATE);
        Due.is("not at all: likely", y.likely(0), HowDeep.STATE);
    }

    // ---- promises 17 and 18: -5; BAD: SHEET; -11; BAD: more than DEEPEST; NO: none such, more than DEEPEST

    private static void judgeBounds() {
        HowDeep x = layers(1);
        Due.place(x, 1);
        Due.place(x, 1);
        for (int s = 0; s < 4; s++) Due.sheet(x, s, s % 3, s == 3 ? 1 : 0);
        Bounds.refused("judge: p", 0, 1, -5, v -> x.judge(v, 0));
        Bounds.refused("judge: SHEET", 0, 3, HowDeep.BAD, v -> x.judge(0, v));
        Bounds.refused("row: p", 0, 1, HowDeep.NO, v -> x.row(v, 0));
        Bounds.refused("row: SHEET", 0, 3, HowDeep.NO, v -> x.row(0, v));
        Bounds.taken("judge: p", 0, 1, -1, -1, v -> x.judge(v, 0));
        Bounds.taken("judge: SHEET", 0, 3, -1, 0, v -> x.judge(0, v));
        Bounds.taken("row: p", 0, 1, 1000000, 1000000, v -> x.row(v, 0));
        Bounds.taken("row: SHEET", 0, 3, 1000000, 0, v -> x.row(0, v));
        x.sheet(0, -1, 0);
        Due.is("judge: a SHEET that went", x.judge(0, 0), -11);
        Due.is("row: a SHEET that went", x.row(0, 0), HowDeep.NO);
    }

    private static void judgeSizes() {
        for (int deepest = 1; deepest <= 5; deepest++) {
            for (int size = 0; size <= 7; size++) {
                HowDeep x = layers(1);
                Due.place(x, 1);
                x.set(0, deepest);
                x.sheet(0, size % 3, size);
                boolean more = size > deepest;
                Due.is("judge: " + size + " of " + deepest, x.judge(0, 0), more ? HowDeep.BAD : -1);
                Due.is("row: " + size + " of " + deepest, x.row(0, 0), more ? HowDeep.NO : 1000000);
            }
        }
        HowDeep y = layers(1);
        Due.place(y, 1);
        y.sheet(0, 2, 40);
        y.cell(0, 0, 9);
        Due.is("judge: 40, though the first is no SIGN", y.judge(0, 0), HowDeep.BAD);
        Due.is("row: 40, though the first is no SIGN", y.row(0, 0), HowDeep.NO);
    }

    /** The first one (from 0) that is none, or CAN'T BE; 0, if one is no SIGN. */
    private static void judgeSigns() {
        for (int at = 0; at < 5; at++) {
            HowDeep x = new HowDeep();
            for (int j = 0; j < 3; j++) x.layer(0, 0, j);
            Due.place(x, 0, 0, 1);
            x.set(0, 5);
            int i = at;
            Due.sheet(x, 0, 2, 2, 2, 2, 2, 2);
            Bounds.refused("judge: no SIGN at " + at, 0, 2, at, v -> {
                x.cell(0, i, v);
                return x.judge(0, 0);
            });
            Bounds.refused("row: no SIGN at " + at, 0, 2, 0, v -> {
                x.cell(0, i, v);
                return x.row(0, 0);
            });
            if (at < 4) {
                x.cell(0, 4, 3);
                Due.is("judge: the first of two", x.judge(0, 0), at);
                x.cell(0, 4, 2);
            }
            Bounds.taken("judge: SIGNS at " + at, 1, 2, at, -1, v -> {
                x.cell(0, i, v);
                return x.judge(0, 0);
            });
            Due.is("row: SIGN 2 all the way", x.row(0, 0), 1000000);
            Due.sheet(x, 0, 0, 2, 2, 2, 2, 2);
            x.cell(0, at, 255);
            Due.is("judge: a byte below 0", x.judge(0, 0), at);
        }
    }

    /** 1000000, for each YARD times HOW MUCH by 1000000, cut one by one. */
    private static void rowCut() {
        HowDeep x = new HowDeep();
        x.layer(33, 0, 0);
        x.layer(0, 0, 1);
        Due.place(x, 1, 2);
        x.set(0, 5);
        // 333333 - 109999 = 223334; then 670000 of 1000000 each
        long[] want = {1000000, 223334, 149633, 100254, 67170, 45003};
        for (int size = 0; size <= 5; size++) {
            x.sheet(0, 2, size);
            Due.is("row: " + size + " YARDS", x.row(0, 0), want[size]);
        }
        Due.is("row: what is DUG does not matter", x.dig(0, 1), 1);
        Due.is("row: nor for judge", x.judge(0, 0), -1);
        Due.is("row: it is the same", x.row(0, 0), 45003);
    }
}
