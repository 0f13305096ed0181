/** Promises 42 to 46: SHEETS, LAYERS by them, what lies at a place. */
public final class HostTest {
    public static void main(String[] args) {
        sheets();
        cells();
        copies();
        layers();
        taken();
        Due.end("HostTest");
    }

    private static void sheets() {
        HowDeep x = new HowDeep();
        Due.is("sheet: -1", x.sheet(-1, 0, 1), HowDeep.BAD);
        Due.is("sheet: 4", x.sheet(4, 0, 1), HowDeep.BAD);
        Due.is("sheet: sort -2", x.sheet(0, -2, 1), HowDeep.BAD);
        Due.is("sheet: sort 3", x.sheet(0, 3, 1), HowDeep.BAD);
        Due.is("sheet: 41", x.sheet(0, 2, 41), HowDeep.BAD);
        Due.is("sheet: size -1", x.sheet(0, 2, -1), -14);
        Due.is("sheet: 41 bytes", x.sheet(0, 0, 41), HowDeep.BAD);
        Due.is("sheet: -1 bytes", x.sheet(0, 0, -1), -14);
        Due.is("sheet: BAD ahead of -14", x.sheet(4, 2, -1), HowDeep.BAD);
        Due.is("sheet: none came", x.cell(0, 0, 0), -11);
        for (int s = 0; s < 4; s++) Due.is("sheet: came", x.sheet(s, s % 3, 40), 1);
        Due.is("sheet: 40", x.cell(3, 39, 1), 1);
        Due.is("sheet: missing, whatever n", x.sheet(3, -1, 99), 1);
        Due.is("sheet: is missing", x.cell(3, 0, 1), -11);
        x.layer(1, 1, 1);
        x.sheet(0, 2, 1);
        x.cell(0, 0, 99);
        x.sheet(0, 2, 1);
        x.place(0);
        Due.is("sheet: all 0 anew", x.told(0, 7), 0);
        Due.is("sheet: of none", x.sheet(1, 0, 0), 1);
        Due.is("sheet: has no place", x.cell(1, 0, 0), -12);
    }

    /** What a SHEET of one number holds for a PLACE: 0 .. 99, or -2. */
    private static int held(int sort, int v) {
        HowDeep x = new HowDeep();
        x.layer(1, 1, 1);
        Due.sheet(x, 0, sort, v);
        int p = x.place(0);
        return p < 0 ? p : x.told(p, 7);
    }

    private static void cells() {
        HowDeep x = new HowDeep();
        x.sheet(0, 0, 3);
        Due.is("cell: SHEET -1", x.cell(-1, 0, 0), HowDeep.BAD);
        Due.is("cell: SHEET 4", x.cell(4, 0, 0), HowDeep.BAD);
        Due.is("cell: a missing SHEET", x.cell(1, 9, 0), -11);
        Due.is("cell: -1", x.cell(0, -1, 0), -12);
        Due.is("cell: 3", x.cell(0, 3, 0), -12);
        Due.is("cell: 2", x.cell(0, 2, 0), 1);
        Due.is("cell: a byte", held(0, 99), 99);
        Due.is("cell: a byte's lowest 8 bits", held(0, 256 + 77), 77);
        Due.is("cell: a byte may be below 0", held(0, 255), HowDeep.BAD);
        Due.is("cell: a short", held(1, 256 + 77), HowDeep.BAD);
        Due.is("cell: a short's lowest 16 bits", held(1, 65536 * 3 + 55), 55);
        Due.is("cell: an int", held(2, 65536 * 3 + 55), HowDeep.BAD);
        Due.is("cell: an int as it is", held(2, 55), 55);
    }

    private static void copies() {
        HowDeep x = new HowDeep();
        for (int j = 0; j < 5; j++) x.layer(1, 1, 1);
        Due.sheet(x, 0, 2, 1, 2, 3, 4, 5);
        Due.sheet(x, 1, 2, 0, 0, 0, 0, 0, 0);
        Due.sheet(x, 2, 1, 0, 0, 0);
        Due.is("copy: SHEET -1", x.copy(-1, 0, 1, 0, 1), HowDeep.BAD);
        Due.is("copy: SHEET 4", x.copy(0, 0, 4, 0, 1), HowDeep.BAD);
        Due.is("copy: a missing one", x.copy(0, 0, 3, 0, 1), -11);
        Due.is("copy: from a missing one", x.copy(3, 0, 0, 0, 1), -11);
        Due.is("copy: BAD ahead of -11", x.copy(3, 0, 4, 0, 1), HowDeep.BAD);
        Due.is("copy: unlike sorts", x.copy(0, 0, 2, 0, 1), -13);
        Due.is("copy: unlike sorts ahead of -12", x.copy(0, 9, 2, 0, 1), -13);
        int big = Integer.MAX_VALUE;
        int[][] outside = {{-1, 0, 1}, {0, -1, 1}, {0, 0, -1}, {0, 0, 6}, {5, 0, 1}, {0, 6, 1}, {6, 0, 0}, {0, 7, 0},
            {big, 0, 1}, {0, big, 1}, {0, 0, big}, {big, big, big}, {1, 0, 5}, {0, 2, 5}};
        for (int[] o : outside) {
            Due.is("copy: outside " + java.util.Arrays.toString(o), x.copy(0, o[0], 1, o[1], o[2]), -12);
        }
        Due.is("copy: none, behind the last", x.copy(0, 5, 1, 6, 0), 0);
        Due.is("copy: all to its own place 1", x.copy(0, 0, 0, 1, 4), 4);
        Due.is("copy: as they were", x.place(0), 0);
        int[] want = {1, 1, 2, 3, 4};
        for (int j = 0; j < 5; j++) Due.is("copy: number " + j, x.told(0, 7 + j), want[j]);
        Due.is("copy: back", x.copy(0, 2, 0, 0, 3), 3);
        x.place(0);
        int[] back = {2, 3, 4, 3, 4};
        for (int j = 0; j < 5; j++) Due.is("copy: number " + j + " then", x.told(1, 7 + j), back[j]);
        Due.is("copy: to another", x.copy(0, 0, 1, 1, 5), 5);
        Due.sheet(x, 0, 2, 0, 0, 0, 0, 0);
        x.copy(1, 0, 0, 0, 5);
        x.place(0);
        int[] moved = {0, 2, 3, 4, 3};
        for (int j = 0; j < 5; j++) Due.is("copy: number " + j + " from another", x.told(2, 7 + j), moved[j]);
    }

    private static void layers() {
        HowDeep x = new HowDeep();
        Due.sheet(x, 0, 1, 10, 1, 0, 101, 0, 0, 30, 3, 2, 40, 4);
        Due.is("layersBy: SHEET 4", x.layersBy(4, 1, 0, 1), HowDeep.BAD);
        Due.is("layersBy: sort -1", x.layersBy(0, -1, 0, 1), HowDeep.BAD);
        Due.is("layersBy: sort 3", x.layersBy(0, 3, 0, 1), HowDeep.BAD);
        Due.is("layersBy: n -1", x.layersBy(0, 1, 0, -1), HowDeep.BAD);
        Due.is("layersBy: n 6", x.layersBy(0, 1, 0, 6), HowDeep.BAD);
        Due.is("layersBy: a missing SHEET", x.layersBy(1, 1, 0, 1), -11);
        Due.is("layersBy: another sort", x.layersBy(0, 2, 0, 1), -13);
        Due.is("layersBy: from -1 on", x.layersBy(0, 1, -1, 1), -12);
        Due.is("layersBy: from beyond it on", x.layersBy(0, 1, 11, 1), -12);
        Due.is("layersBy: from far beyond it on", x.layersBy(0, 1, Integer.MAX_VALUE, 5), -12);
        Due.is("layersBy: none", x.layersBy(0, 1, 0, 0), 0);
        Due.is("layersBy: none, from anywhere", x.layersBy(0, 1, -7, 0), 0);
        Due.is("layersBy: none came yet", x.count(5), 0);
        Due.is("layersBy: three, one is left out", x.layersBy(0, 1, 0, 3), 2);
        Due.is("layersBy: BASE of the second that came", x.taken(1, 6), 30);
        Due.is("layersBy: its WATER", x.asks(1, 1, 1, 0), 30);
        Due.law(x, "cost 0;water salt;fall 0;");
        Due.is("layersBy: its SALT", x.asks(1, 1, 1, 0), 3);
        Due.is("layersBy: part of the fourth is outside", x.layersBy(0, 1, 6, 2), -12);
        Due.is("layersBy: what stood ahead came", x.count(5), 3);
        Due.sheet(x, 1, 0, 1, 1, 1, 2, 2, 2, 3, 3, 2, 4, 4, 2);
        Due.is("layersBy: FULL ones are left out", x.layersBy(1, 0, 0, 4), 2);
        Due.is("layersBy: five", x.count(5), 5);
        HowDeep y = new HowDeep();
        y.layer(1, 1, 1);
        Due.place(y, 1);
        Due.sheet(y, 0, 2, 1, 1, 1);
        Due.is("layersBy: none comes behind a PLACE", y.layersBy(0, 2, 0, 1), 0);
    }

    private static void taken() {
        HowDeep x = new HowDeep();
        x.layer(77, 1, 1);
        for (int kind = 0; kind < 6; kind++) x.rule(kind, 1, 1);
        Due.is("taken: kind -1", x.taken(0, -1), HowDeep.BAD);
        Due.is("taken: kind 7", x.taken(0, 7), HowDeep.BAD);
        Due.is("taken: place -1", x.taken(-1, 0), -12);
        Due.is("taken: place 13", x.taken(13, 0), -12);
        Due.is("taken: BAD ahead of -12", x.taken(13, 7), HowDeep.BAD);
        Due.is("taken: no LAYER there", x.taken(1, 6), -11);
        Due.is("taken: no RULE there", x.taken(11, 0), -11);
        Due.is("taken: no RULE at the last", x.taken(12, 6), -11);
        Due.is("taken: a LAYER", x.taken(0, 6), 77);
        for (int kind = 0; kind < 6; kind++) Due.is("taken: a LAYER as a RULE", x.taken(0, kind), -13);
        String[] isOne = {"0", "01", "012", "03", "014", "0125"};
        for (int r = 0; r < 6; r++) {
            for (int kind = 0; kind < 6; kind++) {
                int want = isOne[r].indexOf('0' + kind) >= 0 ? r : -13;
                Due.is("taken: a RULE " + r + " as " + kind, x.taken(5 + r, kind), want);
            }
            Due.is("taken: a RULE as a LAYER", x.taken(5 + r, 6), -13);
        }
    }
}
