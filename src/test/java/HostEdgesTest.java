/** Promises 42 to 46: SHEETS, LAYERS by them, what lies at a place, at their bounds. */
public final class HostEdgesTest {
    public static void main(String[] args) {
        sheetBounds();
        sheetMissing();
        sheetAnew();
        cellBounds();
        cellWraps();
        copyBounds();
        copyPlaces();
        copyItself();
        copySorts();
        layersByBounds();
        layersByPlaces();
        layersByStops();
        layersByLeavesOut();
        layersByWraps();
        takenBounds();
        takenKinds();
        Due.end("HostEdgesTest");
    }

    // ---- promise 42: BAD: SHEET, sort, n above 40; -14; sort -1: n does not matter

    private static void sheetBounds() {
        HowDeep x = new HowDeep();
        Bounds.refused("sheet: SHEET", 0, 3, HowDeep.BAD, v -> x.sheet(v, 2, 5));
        Bounds.refused("sheet: missing, SHEET", 0, 3, HowDeep.BAD, v -> x.sheet(v, -1, 5));
        Bounds.refused("sheet: sort", -1, 2, HowDeep.BAD, v -> x.sheet(0, v, 5));
        for (int sort = 0; sort <= 2; sort++) {
            int of = sort;
            for (int n : new int[] {41, 42, 100, 256, 65536, Integer.MAX_VALUE}) {
                Due.is("sheet: sort " + sort + ", n " + n, x.sheet(0, of, n), HowDeep.BAD);
            }
            for (int n : new int[] {-1, -2, -40, -256, -65536, Integer.MIN_VALUE}) {
                Due.is("sheet: sort " + sort + ", n " + n, x.sheet(0, of, n), -14);
                Due.is("sheet: BAD SHEET ahead of n " + n, x.sheet(4, of, n), HowDeep.BAD);
                Due.is("sheet: BAD sort ahead of n " + n, x.sheet(0, of + 3, n), HowDeep.BAD);
            }
        }
        Due.is("sheet: none came", x.cell(0, 0, 0), -11);
        Bounds.taken("sheet: SHEET", 0, 3, 1, 1, v -> x.sheet(v, 2, 5));
        for (int sort = 0; sort <= 2; sort++) {
            int of = sort;
            Bounds.taken("sheet: sort " + sort + ", n", 0, 40, 1, 1, n -> x.sheet(1, of, n));
            Due.is("sheet: the last of 40", x.cell(1, 39, 1), 1);
            Due.is("sheet: none behind it", x.cell(1, 40, 1), -12);
        }
    }

    private static void sheetMissing() {
        HowDeep x = new HowDeep();
        for (int n : new int[] {0, 40, 41, -1, Integer.MIN_VALUE, Integer.MAX_VALUE}) {
            Due.is("sheet: it was missing, n " + n, x.sheet(0, -1, n), 1);
            Due.is("sheet: it is missing, n " + n, x.cell(0, 0, 0), -11);
            x.sheet(0, 1, 3);
            Due.is("sheet: it is there", x.cell(0, 2, 0), 1);
            Due.is("sheet: it goes, n " + n, x.sheet(0, -1, n), 1);
            Due.is("sheet: it went, n " + n, x.cell(0, 0, 0), -11);
        }
    }

    /** A row of n of a sort, all 0. */
    private static void sheetAnew() {
        HowDeep x = new HowDeep();
        x.layer(1, 0, 0);
        x.layer(1, 0, 0);
        Due.sheet(x, 0, 2, 7, 8, 9);
        x.sheet(0, 2, 2);
        Due.is("sheet: shorter", x.cell(0, 2, 1), -12);
        Due.is("sheet: all 0", x.place(0), 0);
        Due.is("sheet: first number", x.told(0, 7), 0);
        Due.is("sheet: second number", x.told(0, 8), 0);
        Due.sheet(x, 1, 0, 1, 2);
        Due.sheet(x, 2, 0, 3, 4);
        x.sheet(1, 1, 2);
        Due.is("sheet: of another sort", x.copy(1, 0, 2, 0, 1), -13);
        Due.is("sheet: others stay", x.place(2), 1);
        Due.is("sheet: a number of another one", x.told(1, 8), 4);
        x.sheet(1, -1, 0);
        x.sheet(1, 0, 2);
        Due.is("sheet: all 0 when it comes back", x.place(1), 2);
        Due.is("sheet: its number then", x.told(2, 8), 0);
    }

    // ---- promise 43: BAD: SHEET; -11; -12; of bytes, shorts its lowest 8, 16 bits

    private static void cellBounds() {
        HowDeep x = new HowDeep();
        x.sheet(0, 2, 1);
        x.sheet(3, 0, 40);
        Bounds.refused("cell: SHEET", 0, 3, HowDeep.BAD, v -> x.cell(v, 0, 0));
        Bounds.refused("cell: i of one", 0, 0, -12, v -> x.cell(0, v, 0));
        Bounds.refused("cell: i of 40", 0, 39, -12, v -> x.cell(3, v, 0));
        Bounds.refused("cell: -11 ahead of -12, i", 0, 39, -11, v -> x.cell(1, v, 0));
        Bounds.refused("cell: BAD ahead of -12, i", 0, 39, HowDeep.BAD, v -> x.cell(4, v, 0));
        Bounds.taken("cell: SHEET", 0, 3, 1, 1, v -> x.cell(v, 0, 0));
        Bounds.taken("cell: i", 0, 39, 1, 1, v -> x.cell(3, v, 0));
        x.sheet(0, 2, 0);
        for (int i = -1; i <= 1; i++) Due.is("cell: an empty SHEET " + i, x.cell(0, i, 0), -12);
        x.sheet(0, 2, 1);
        for (int v : new int[] {Integer.MIN_VALUE, -1, 0, 1, Integer.MAX_VALUE}) Due.is("cell: any number " + v, x.cell(0, 0, v), 1);
    }

    /** What a SHEET's number is, as a FIRST: 0 .. 99, else BAD. */
    private static int held(int sort, int v) {
        HowDeep x = new HowDeep();
        x.layer(1, 0, 0);
        Due.sheet(x, 0, sort, v);
        int p = x.place(0);
        return p < 0 ? p : x.told(p, 7);
    }

    private static void cellWraps() {
        int[] v = {0, 99, 100, 127, 128, 255, 256, 257, 355, 356, -1, -128, -129, -156, -157, -255, -256, 32767, 32768, 32867,
            65535, 65536, 65635, 65636, -65536, -65437, -65436, -32768, 1 << 24, (1 << 24) + 5, Integer.MAX_VALUE, Integer.MIN_VALUE,
            Integer.MIN_VALUE + 9};
        for (int n : v) {
            int low = n & 255;
            int lower = n & 65535;
            Due.is("cell: byte " + n, held(0, n), low < 100 ? low : HowDeep.BAD);
            Due.is("cell: short " + n, held(1, n), lower < 100 ? lower : HowDeep.BAD);
            Due.is("cell: int " + n, held(2, n), n >= 0 && n < 100 ? n : HowDeep.BAD);
        }
    }

    // ---- promise 44: BAD: SHEETS; -11; -13: unlike sorts; -12 (n below 0, too)

    private static void copyBounds() {
        HowDeep x = new HowDeep();
        x.sheet(0, 2, 5);
        x.sheet(3, 2, 5);
        Bounds.refused("copy: SHEET", 0, 3, HowDeep.BAD, v -> x.copy(v, 0, 0, 0, 1));
        Bounds.refused("copy: other", 0, 3, HowDeep.BAD, v -> x.copy(0, 0, v, 0, 1));
        Bounds.refused("copy: BAD ahead of -11, SHEET", 0, 3, HowDeep.BAD, v -> x.copy(v, 0, 1, 0, 1));
        Bounds.refused("copy: BAD ahead of -11, other", 0, 3, HowDeep.BAD, v -> x.copy(1, 0, v, 0, 1));
        Bounds.refused("copy: BAD ahead of -12", 0, 3, HowDeep.BAD, v -> x.copy(0, -1, v, -1, -1));
        Bounds.taken("copy: SHEET", 0, 3, 1, 1, v -> x.copy(v, 0, 0, 0, 1));
        Bounds.taken("copy: other", 0, 3, 1, 1, v -> x.copy(0, 0, v, 0, 1));
        for (int n : new int[] {-1, 0, 1, 6}) {
            Due.is("copy: from a missing one, n " + n, x.copy(1, 0, 0, 0, n), -11);
            Due.is("copy: to a missing one, n " + n, x.copy(0, 0, 1, 0, n), -11);
            Due.is("copy: both are missing, n " + n, x.copy(1, 9, 2, 9, n), -11);
            Due.is("copy: it is missing itself, n " + n, x.copy(1, 0, 1, 0, n), -11);
        }
    }

    private static HowDeep fiveAndSeven() {
        HowDeep x = new HowDeep();
        x.sheet(0, 2, 5);
        x.sheet(1, 2, 7);
        return x;
    }

    private static void copyPlaces() {
        for (int i = -2; i <= 9; i++) {
            HowDeep x = fiveAndSeven();
            for (int j = -2; j <= 9; j++) {
                for (int n = -2; n <= 8; n++) {
                    boolean inside = i >= 0 && j >= 0 && n >= 0 && i + n <= 5 && j + n <= 7;
                    Due.is("copy: " + n + " from " + i + " to " + j, x.copy(0, i, 1, j, n), inside ? n : -12);
                }
            }
        }
        HowDeep x = fiveAndSeven();
        int[] far = {Integer.MIN_VALUE, Integer.MIN_VALUE + 1, -256, 256, 65536, Integer.MAX_VALUE - 1, Integer.MAX_VALUE};
        for (int v : far) {
            Due.is("copy: i " + v, x.copy(0, v, 1, 0, 1), -12);
            Due.is("copy: j " + v, x.copy(0, 0, 1, v, 1), -12);
            Due.is("copy: n " + v, x.copy(0, 0, 1, 0, v), -12);
            Due.is("copy: i and n " + v, x.copy(0, v, 1, 0, v), -12);
            Due.is("copy: n which comes round to the place, " + v, x.copy(0, 1, 1, 1, v), -12);
            for (int w : far) Due.is("copy: " + v + " and " + w, x.copy(0, v, 1, w, 0), -12);
        }
        x.sheet(2, 2, 0);
        Due.is("copy: none of an empty one", x.copy(2, 0, 1, 7, 0), 0);
        Due.is("copy: none to an empty one", x.copy(0, 5, 2, 0, 0), 0);
        Due.is("copy: one of an empty one", x.copy(2, 0, 1, 0, 1), -12);
        Due.is("copy: one to an empty one", x.copy(0, 0, 2, 0, 1), -12);
        x.sheet(0, 2, 40);
        x.sheet(1, 2, 40);
        Due.is("copy: all 40", x.copy(0, 0, 1, 0, 40), 40);
        Due.is("copy: 41", x.copy(0, 0, 1, 0, 41), -12);
    }

    /** To its own place j (as they were), upwards and downwards. */
    private static void copyItself() {
        for (int i = 0; i < 5; i++) {
            for (int j = 0; j < 5; j++) {
                int n = 5 - Math.max(i, j);
                HowDeep x = new HowDeep();
                for (int k = 0; k < 5; k++) x.layer(1, 0, 0);
                Due.sheet(x, 0, 0, 11, 12, 13, 14, 15);
                Due.is("copy: to itself", x.copy(0, i, 0, j, n), n);
                x.place(0);
                for (int k = 0; k < 5; k++) {
                    boolean came = k >= j && k < j + n;
                    Due.is("copy: number " + k + " by " + i + " to " + j, x.told(0, 7 + k), 11 + (came ? k - j + i : k));
                }
            }
        }
    }

    private static void copySorts() {
        HowDeep x = new HowDeep();
        x.layer(1, 0, 0);
        for (int a = 0; a <= 2; a++) {
            for (int b = 0; b <= 2; b++) {
                Due.sheet(x, 0, a, 9, 60 + a);
                Due.sheet(x, 1, b, 0);
                Due.is("copy: sort " + a + " to " + b, x.copy(0, 1, 1, 0, 1), a == b ? 1 : -13);
                Due.is("copy: none of sort " + a + " to " + b, x.copy(0, 0, 1, 0, 0), a == b ? 0 : -13);
                Due.is("copy: -13 ahead of -12, " + a + " to " + b, x.copy(0, -1, 1, 9, -1), a == b ? -12 : -13);
                if (a == b) {
                    Due.is("copy: a number of sort " + a, x.place(1), a);
                    Due.is("copy: is what it was", x.told(a, 7), 60 + a);
                }
            }
        }
    }

    // ---- promise 45: BAD: SHEET, sort, n; -11; -13; -12: what stood ahead came

    private static void layersByBounds() {
        HowDeep x = new HowDeep();
        for (int s = 0; s < 4; s++) Due.sheet(x, s, s % 3, 101, 0, 0);
        Bounds.refused("layersBy: SHEET", 0, 3, HowDeep.BAD, v -> x.layersBy(v, 0, 0, 1));
        Bounds.refused("layersBy: sort", 0, 2, HowDeep.BAD, v -> x.layersBy(0, v, 0, 1));
        Bounds.refused("layersBy: n", 0, 5, HowDeep.BAD, v -> x.layersBy(0, 0, 0, v));
        Bounds.refused("layersBy: BAD ahead of -13, n", 0, 5, HowDeep.BAD, v -> x.layersBy(0, 1, 0, v));
        Bounds.refused("layersBy: BAD ahead of -12, n", 0, 5, HowDeep.BAD, v -> x.layersBy(0, 0, 99, v));
        for (int s = 0; s < 4; s++) {
            for (int sort = 0; sort <= 2; sort++) {
                boolean like = sort == s % 3;
                Due.is("layersBy: SHEET " + s + " of sort " + sort, x.layersBy(s, sort, 0, 1), like ? 0 : -13);
                Due.is("layersBy: -13 ahead of -12, " + s + " of " + sort, x.layersBy(s, sort, 1, 1), like ? -12 : -13);
                Due.is("layersBy: none, " + s + " of " + sort, x.layersBy(s, sort, 0, 0), like ? 0 : -13);
            }
        }
        x.sheet(0, -1, 0);
        for (int n = 0; n <= 5; n += 5) Due.is("layersBy: missing, n " + n, x.layersBy(0, 0, 99, n), -11);
        Bounds.refused("layersBy: BAD ahead of -11, sort", 0, 2, HowDeep.BAD, v -> x.layersBy(0, v, 0, 1));
        Bounds.refused("layersBy: BAD ahead of -11, n", 0, 5, HowDeep.BAD, v -> x.layersBy(0, 0, 0, v));
        Due.is("layersBy: none came", x.count(5), 0);
    }

    private static void layersByPlaces() {
        for (int size = 0; size <= 8; size++) {
            for (int at = -2; at <= 9; at++) {
                HowDeep x = new HowDeep();
                x.sheet(0, 2, size);
                boolean inside = at >= 0 && at + 3 <= size;
                Due.is("layersBy: of " + size + " from " + at, x.layersBy(0, 2, at, 1), inside ? 1 : -12);
                Due.is("layersBy: LAYERS then", x.count(5), inside ? 1 : 0);
            }
        }
        HowDeep y = new HowDeep();
        y.sheet(0, 2, 40);
        Bounds.refused("layersBy: at", 0, 37, -12, v -> y.layersBy(0, 2, v, 1));
        Bounds.refused("layersBy: at which five", 0, 37, -12, v -> y.layersBy(0, 2, v, 5));
        Bounds.taken("layersBy: at", 0, 37, 1, 1, v -> y.layersBy(0, 2, v, 1));
        for (int at = 25; at <= 26; at++) {
            HowDeep z = new HowDeep();
            z.sheet(0, 0, 40);
            Due.is("layersBy: five from " + at + " on", z.layersBy(0, 0, at, 5), at == 25 ? 5 : -12);
            Due.is("layersBy: came from " + at + " on", z.count(5), at == 25 ? 5 : 4);
        }
    }

    /** -12: what stood ahead came. */
    private static void layersByStops() {
        for (int n = 1; n <= 5; n++) {
            for (int size = 0; size <= 15; size++) {
                HowDeep x = new HowDeep();
                x.sheet(0, 1, size);
                for (int i = 0; i < size; i++) x.cell(0, i, i % 3 == 0 ? 20 + i : i % 3);
                boolean all = 3 * n <= size;
                Due.is("layersBy: " + n + " of a SHEET of " + size, x.layersBy(0, 1, 0, n), all ? n : -12);
                int came = Math.min(n, size / 3);
                Due.is("layersBy: came " + n + " of " + size, x.count(5), came);
                for (int j = 0; j < came; j++) Due.is("layersBy: BASE of " + j, x.taken(j, 6), 20 + 3 * j);
            }
        }
        HowDeep y = new HowDeep();
        Due.sheet(y, 0, 2, 9, 9, 10, 1, 2, 20, 3, 0);
        Due.is("layersBy: from a place on", y.layersBy(0, 2, 2, 2), 2);
        Due.is("layersBy: BASE from there", y.taken(0, 6), 10);
        Due.law(y, "cost 0;water salt*10;fall 0;");
        Due.is("layersBy: SALT from there", y.asks(1, 1, 1, 0), 30);
        Due.is("layersBy: WATER at once", y.asks(1, 1, 0, 0), 10);
        Due.place(y, 1, 0);
        Due.sheet(y, 0, 2, 2);
        Due.is("layersBy: SIGN from there", y.judge(0, 0), -1);
    }

    /** Others are left out: those that layer() refuses, for whatever it does. */
    private static void layersByLeavesOut() {
        int[][] bad = {{-1, 0, 0}, {101, 0, 0}, {0, -1, 0}, {0, 10, 0}, {0, 0, -1}, {0, 0, 3}};
        for (int[] b : bad) {
            HowDeep x = new HowDeep();
            Due.sheet(x, 0, 2, 0, 0, 0, b[0], b[1], b[2], 100, 9, 2);
            Due.is("layersBy: the second is left out", x.layersBy(0, 2, 0, 3), 2);
            Due.is("layersBy: the first", x.taken(0, 6), 0);
            Due.is("layersBy: the third", x.taken(1, 6), 100);
            Due.is("layersBy: no more", x.count(5), 2);
        }
        HowDeep y = new HowDeep();
        y.sheet(0, 0, 15);
        int[] came = {2, 2, 1, 0};
        for (int c : came) Due.is("layersBy: two more", y.layersBy(0, 0, 0, 2), c);
        Due.is("layersBy: FULL", y.count(5), 5);
        Due.is("layersBy: FULL, none comes", y.layersBy(0, 0, 0, 5), 0);
        Due.is("layersBy: FULL, and outside", y.layersBy(0, 0, 3, 5), -12);
        HowDeep z = new HowDeep();
        z.layer(0, 0, 0);
        Due.place(z, 1);
        z.sheet(0, 0, 15);
        Due.is("layersBy: there are PLACES", z.layersBy(0, 0, 0, 5), 0);
        Due.is("layersBy: there are PLACES, and outside", z.layersBy(0, 0, 1, 5), -12);
        Due.is("layersBy: one stays", z.count(5), 1);
    }

    /** Numbers of bytes and shorts are those that they became. */
    private static void layersByWraps() {
        int[] wide = {0, 256, 65536};
        for (int sort = 0; sort <= 2; sort++) {
            for (int w = 0; w < 3; w++) {
                HowDeep x = new HowDeep();
                Due.sheet(x, 0, sort, wide[w] + 44, wide[w], wide[w] + 1);
                boolean in = w == 0 || sort == 0 || sort == 1 && w == 2;
                Due.is("layersBy: sort " + sort + " and " + wide[w], x.layersBy(0, sort, 0, 1), in ? 1 : 0);
                Due.is("layersBy: its BASE", x.taken(0, 6), in ? 44 : -11);
            }
        }
    }

    // ---- promise 46: BAD: kind; -12: i; -11: nothing lies there; -13

    private static void takenBounds() {
        HowDeep x = new HowDeep();
        Bounds.refused("taken: kind", 0, 6, HowDeep.BAD, v -> x.taken(0, v));
        Bounds.refused("taken: i", 0, 12, -12, v -> x.taken(v, 0));
        Bounds.refused("taken: BAD ahead of -12, kind", 0, 6, HowDeep.BAD, v -> x.taken(13, v));
        for (int kind = 0; kind <= 6; kind++) {
            int k = kind;
            Bounds.refused("taken: -12 for kind " + kind, 0, 12, -12, v -> x.taken(v, k));
            for (int i = 0; i <= 12; i++) Due.is("taken: nothing at " + i, x.taken(i, kind), -11);
        }
        for (int j = 0; j < 5; j++) {
            Due.is("taken: no LAYER yet", x.taken(j, 6), -11);
            x.layer(j == 4 ? 0 : 100 - j, 0, 0);
            Due.is("taken: BASE of " + j, x.taken(j, 6), j == 4 ? 0 : 100 - j);
            for (int kind = 0; kind <= 5; kind++) Due.is("taken: a LAYER is no RULE", x.taken(j, kind), -13);
            Due.is("taken: none below it", x.taken(j + 1, 6), -11);
        }
        for (int r = 0; r < 8; r++) {
            for (int kind = 0; kind <= 6; kind++) Due.is("taken: no RULE yet", x.taken(5 + r, kind), -11);
            x.rule(0, 0, 0);
            Due.is("taken: RULE " + r, x.taken(5 + r, 0), r);
            Due.is("taken: a RULE is no LAYER", x.taken(5 + r, 6), -13);
            if (r < 7) Due.is("taken: none behind it", x.taken(6 + r, 0), -11);
        }
    }

    /** A RULE of that KIND (also of one that is one). */
    private static void takenKinds() {
        int[][] is = {{0}, {0, 1}, {0, 1, 2}, {0, 3}, {0, 1, 4}, {0, 1, 2, 5}};
        HowDeep x = new HowDeep();
        for (int r = 0; r < 8; r++) x.rule(r < 6 ? 5 - r : r - 6, 0, 0);
        for (int r = 0; r < 8; r++) {
            int of = r < 6 ? 5 - r : r - 6;
            for (int kind = 0; kind <= 5; kind++) {
                boolean one = false;
                for (int k : is[of]) one |= k == kind;
                Due.is("taken: a RULE " + of + " for a RULE " + kind, x.taken(5 + r, kind), one ? r : -13);
            }
        }
    }
}
