/** Promises 10 to 18: PLACES, TIES, what is DUG, THOUGHT and shown there. */
public final class PlacesTest {
    public static void main(String[] args) {
        places();
        ties();
        digs();
        told();
        thought();
        cut();
        judged();
        Due.end("PlacesTest");
    }

    /** LAYER 0 is wet by half and shows 0, LAYER 1 is dry and shows 1; a YARD costs 10. */
    static HowDeep plain() {
        HowDeep x = new HowDeep();
        x.layer(50, 0, 0);
        x.layer(0, 0, 1);
        Due.law(x, "cost 10;water base;fall 10;");
        return x;
    }

    private static void places() {
        HowDeep none = new HowDeep();
        none.sheet(0, 2, 0);
        Due.is("place: no LAYERS", none.place(0), HowDeep.BAD);
        HowDeep x = plain();
        Due.is("place: SHEET -1", x.place(-1), HowDeep.BAD);
        Due.is("place: SHEET 4", x.place(4), HowDeep.BAD);
        Due.is("place: a missing SHEET", x.place(0), -11);
        Due.is("place: too few", Due.place(x, 1), HowDeep.BAD);
        Due.is("place: too many", Due.place(x, 1, 1, 1), HowDeep.BAD);
        Due.is("place: 100", Due.place(x, 1, 100), HowDeep.BAD);
        Due.is("place: -1", Due.place(x, -1, 1), HowDeep.BAD);
        Due.is("place: refused ones do not count", x.count(6), 0);
        Due.is("place: 99 and 0", Due.place(x, 99, 0), 0);
        Due.sheet(x, 0, 0, 1, 2);
        Due.is("place: by bytes", x.place(0), 1);
        Due.sheet(x, 0, 1, 3, 4);
        Due.is("place: by shorts", x.place(0), 2);
        x.cell(0, 0, 9);
        Due.is("place: the SHEET's later number does not matter", x.told(2, 7), 3);
        Due.is("place: another", Due.place(x, 1, 1), 3);
        Due.is("place: FULL", Due.place(x, 1, 1), HowDeep.FULL);
        Due.is("place: BAD ahead of FULL", Due.place(x, 1, 100), HowDeep.BAD);
    }

    private static void ties() {
        HowDeep x = plain();
        for (int p = 0; p < 3; p++) Due.place(x, 1, 1);
        Due.is("ties: 0 at first", x.ties(0, 1, 100), 0);
        Due.is("ties: either way", x.ties(1, 0, 30), 100);
        Due.is("ties: either way back", x.ties(0, 1, 0), 30);
        Due.is("ties: others stay", x.ties(0, 2, 1), 0);
        Due.is("ties: alike", x.ties(1, 1, 5), HowDeep.NONE);
        Due.is("ties: no PLACE", x.ties(0, 3, 5), HowDeep.NONE);
        Due.is("ties: no PLACE -1", x.ties(-1, 0, 5), HowDeep.NONE);
        Due.is("ties: 101", x.ties(0, 1, 101), HowDeep.BAD);
        Due.is("ties: -1", x.ties(0, 1, -1), HowDeep.BAD);
        Due.is("ties: NONE ahead of BAD", x.ties(1, 1, 101), HowDeep.NONE);
    }

    private static void digs() {
        HowDeep x = plain();
        Due.is("dig: no PLACE", x.dig(0, 0), HowDeep.NONE);
        Due.is("fill: no PLACE", x.fill(0), HowDeep.NONE);
        Due.place(x, 1, 1);
        Due.is("dig: SIGN -1", x.dig(0, -1), HowDeep.BAD);
        Due.is("dig: SIGN 4", x.dig(0, 4), HowDeep.BAD);
        Due.is("dig: NONE ahead of BAD", x.dig(1, 4), HowDeep.NONE);
        Due.is("dig: YARD 1", x.dig(0, 0), 1);
        Due.is("dig: YARD 2", x.dig(0, 2), 2);
        Due.is("dig: water", x.dig(0, 3), 2);
        Due.is("dig: behind water", x.dig(0, 0), HowDeep.STATE);
        Due.is("dig: BAD ahead of STATE", x.dig(0, 4), HowDeep.BAD);
        Due.is("fill: how many were dry", x.fill(0), 2);
        Due.is("fill: nothing is DUG", x.fill(0), 0);
        Due.is("fill: no water either", x.told(0, 1), 0);
        Due.is("fill: -1", x.fill(-1), HowDeep.NONE);
        for (int y = 1; y <= 4; y++) Due.is("dig: down", x.dig(0, 1), y);
        Due.is("dig: DEEPEST is reached", x.dig(0, 1), HowDeep.STATE);
        Due.is("dig: no water there either", x.dig(0, 3), HowDeep.STATE);
        x.set(0, 5);
        Due.is("dig: one more", x.dig(0, 3), 4);
        x.set(0, 1);
        x.fill(0);
        Due.is("dig: the first", x.dig(0, 0), 1);
        Due.is("dig: that was DEEPEST", x.dig(0, 0), HowDeep.STATE);
    }

    private static void told() {
        HowDeep x = plain();
        Due.place(x, 7, 8);
        x.set(0, 5);
        Due.is("told: no PLACE", x.told(1, 0), -5);
        Due.is("told: no PLACE ahead of what", x.told(-1, 12), -5);
        Due.is("told: 12", x.told(0, 12), -7);
        Due.is("told: -1", x.told(0, -1), -7);
        x.dig(0, 2);
        x.dig(0, 0);
        Due.is("told: dry", x.told(0, 0), 2);
        Due.is("told: no water", x.told(0, 1), 0);
        x.dig(0, 3);
        Due.is("told: still two dry", x.told(0, 0), 2);
        Due.is("told: water", x.told(0, 1), 1);
        int[] want = {2, 0, -1, -1, -1, 7, 8, 0, 0, 0};
        for (int i = 0; i < want.length; i++) Due.is("told " + (i + 2), x.told(0, i + 2), want[i]);
        x.fill(0);
        Due.is("told: a SIGN that is filled", x.told(0, 2), -1);
    }

    private static void thought() {
        HowDeep x = plain();
        Due.place(x, 1, 1);
        Due.place(x, 0, 0);
        Due.place(x, 1, 2);
        Due.is("think: no PLACE", x.think(3, 0), HowDeep.NO);
        Due.is("think: no LAYER", x.think(0, 2), HowDeep.NO);
        Due.is("think: no LAYER -1", x.think(0, -1), HowDeep.NO);
        Due.is("likely: no PLACE", x.likely(3), HowDeep.NO);
        Due.is("think: half", x.think(0, 0), 500000);
        Due.is("think: nothing counts", x.think(1, 1), 500000);
        Due.is("think: a third, cut", x.think(2, 0), 333333);
        Due.is("think: two thirds, cut", x.think(2, 1), 666666);
        Due.is("likely: a quarter", x.likely(0), 250000);
        x.dig(0, 0);
        Due.is("think: it was LAYER 0, and nothing follows", x.think(0, 0), 1000000);
        Due.is("likely: half", x.likely(0), 500000);
        x.dig(0, 1);
        Due.is("think: CAN'T BE", x.think(0, 0), HowDeep.STATE);
        Due.is("likely: CAN'T BE", x.likely(0), HowDeep.STATE);
        x.set(0, 2);
        Due.is("likely: CAN'T BE, though DEEPEST is reached", x.likely(0), HowDeep.STATE);
        x.fill(0);
        x.dig(0, 1);
        Due.is("likely: never", x.likely(0), 0);
        x.dig(0, 1);
        Due.is("think: beyond DEEPEST", x.think(0, 1), 1000000);
        x.fill(0);
        x.dig(0, 0);
        x.dig(0, 0);
        Due.is("likely: DEEPEST is reached", x.likely(0), 0);
        x.set(0, 5);
        Due.is("likely: not any more", x.likely(0), 500000);
        x.dig(0, 3);
        Due.is("likely: behind water as of what was dry", x.likely(0), 500000);
        Due.is("think: behind water, too", x.think(0, 0), 1000000);
        x.fill(0);
        for (int y = 0; y < 4; y++) x.dig(0, 0);
        Due.is("likely: the last YARD", x.likely(0), 500000);
        x.fill(0);
        for (int y = 0; y < 5; y++) x.dig(0, 1);
        Due.is("think: of a sixth YARD", x.think(0, 1), 1000000);
    }

    /** Quotients are cut one by one: by thirds below, and by MADE WHOLE. */
    private static void cut() {
        HowDeep x = new HowDeep();
        x.layer(50, 0, 0);
        x.layer(20, 0, 0);
        x.layer(0, 0, 1);
        Due.law(x, "cost 10;water base;fall 10;");
        Due.place(x, 1, 1, 1);
        for (int j = 0; j < 3; j++) x.follow(0, j, 1);
        x.follow(1, 0, 2);
        x.follow(1, 2, 1);
        x.dig(0, 0);
        // dry: 333333 - 166666 = 166667, 333333 - 66666 = 266667: 433334; whole: 384615 (..), 615384 (..)
        Due.is("cut: LAYER 0", x.think(0, 0), 384615 / 3 + 615384L * 2 / 3);
        Due.is("cut: LAYER 1", x.think(0, 1), 384615 / 3);
        Due.is("cut: LAYER 2", x.think(0, 2), 384615 / 3 + 615384 / 3);
    }

    private static void judged() {
        HowDeep x = plain();
        Due.place(x, 1, 1);
        Due.is("judge: no PLACE", x.judge(1, 9), -5);
        Due.is("judge: no SHEET", x.judge(0, 4), HowDeep.BAD);
        Due.is("judge: a missing SHEET", x.judge(0, 0), -11);
        Due.is("row: no PLACE", x.row(1, 0), HowDeep.NO);
        Due.is("row: no SHEET", x.row(0, -1), HowDeep.NO);
        Due.is("row: a missing SHEET", x.row(0, 0), HowDeep.NO);
        told(x, -1, 1000000);
        told(x, -1, 250000, 0);
        told(x, -1, 125000, 0, 0);
        told(x, -1, 62500, 0, 0, 0);
        told(x, -1, 500000, 1, 1, 1, 1);
        told(x, 1, 0, 0, 1);
        told(x, 0, 0, 2);
        told(x, 0, 0, 3);
        told(x, 2, 0, 1, 1, -1);
        told(x, 2, 0, 1, 1, 0, 3);
        Due.sheet(x, 0, 0, 1, 1, 1, 1, 1);
        Due.is("judge: more than DEEPEST", x.judge(0, 0), HowDeep.BAD);
        Due.is("row: more than DEEPEST", x.row(0, 0), HowDeep.NO);
        x.set(0, 5);
        Due.is("judge: not any more", x.judge(0, 0), -1);
        x.dig(0, 3);
        Due.is("judge: whatever is DUG", x.judge(0, 0), -1);
        Due.is("row: whatever is DUG", x.row(0, 0), 500000);
        Due.place(x, 1, 0);
        x.think(1, 0);
        Due.is("judge: whatever was asked ahead", x.judge(0, 0), -1);
        x.think(1, 0);
        Due.is("row: whatever was asked ahead", x.row(0, 0), 500000);
        HowDeep y = new HowDeep();
        y.layer(0, 0, 2);
        Due.place(y, 1);
        Due.sheet(y, 0, 1, 2, 2);
        Due.is("judge: SIGN 2", y.judge(0, 0), -1);
        Due.is("row: SIGN 2", y.row(0, 0), 1000000);
    }

    private static void told(HowDeep x, int wrong, long parts, int... signs) {
        Due.sheet(x, 0, 1, signs);
        String row = java.util.Arrays.toString(signs);
        Due.is("judge " + row, x.judge(0, 0), wrong);
        Due.is("row " + row, x.row(0, 0), parts);
    }
}
