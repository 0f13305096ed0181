/** Promises 28 to 33: BORES, a DIVINER, what falls in, LINING; worked by hand. */
public final class BoresTest {
    public static void main(String[] args) {
        bores();
        diviners();
        falls();
        lines();
        Due.end("BoresTest");
    }

    private static void bores() {
        HowDeep x = PlacesTest.plain();
        Due.place(x, 1, 1);
        x.set(0, 2);
        Due.is("bore: no PLACE", x.bore(1, 0), HowDeep.NO);
        Due.is("bore: -1", x.bore(0, -1), HowDeep.NO);
        Due.is("bore: 6", x.bore(0, 6), HowDeep.NO);
        long[] want = {0, 5000000, 7500000, 7500000, 7500000, 7500000};
        for (int n = 0; n <= 5; n++) Due.is("bore " + n, x.bore(0, n), want[n]);
        Due.is("far: no PLACE", x.far(1, 1000), -5);
        Due.is("far: cost -1", x.far(0, -1), -7);
        Due.is("far: cost 1000", x.far(0, 1000), -7);
        Due.is("far: for nothing, of like ones the least", x.far(0, 0), 2);
        Due.is("far: 2", x.far(0, 2), 2);
        Due.is("far: 3", x.far(0, 3), 1);
        Due.is("far: 4", x.far(0, 4), 1);
        Due.is("far: 5", x.far(0, 5), 0);
        Due.is("far: 999", x.far(0, 999), 0);
        x.dig(0, 0);
        Due.is("bore: 1 behind SIGN 0", x.bore(0, 1), 500000L * 190 - 90000000);
        x.dig(0, 0);
        for (int n = 0; n <= 5; n++) Due.is("bore: DEEPEST is reached", x.bore(0, n), 0);
        Due.is("far: DEEPEST is reached", x.far(0, 0), 0);
        HowDeep y = PlacesTest.plain();
        Due.place(y, 1, 1);
        y.set(1, 5);
        Due.is("bore: water is worth less than what is spent", y.bore(0, 5), 0);
        HowDeep z = new HowDeep();
        for (int j = 0; j < 2; j++) z.layer(100 * j, 0, 0);
        Due.law(z, "cost 10;water base*(yard=5);fall 0;");
        Due.place(z, 1, 1);
        z.set(0, 5);
        // without a BORE: 5 YARDS for 100 in the end; by one of 5: 200 less 50 by half, else nothing
        Due.is("bore: only the last YARD tells", z.bore(0, 5), 500000L * 150 - 50000000);
        Due.is("far: to the last YARD", z.far(0, 0), 5);
    }

    private static void diviners() {
        HowDeep x = new HowDeep();
        x.layer(20, 0, 0);
        Due.law(x, "cost 30;water base;fall 0;");
        Due.place(x, 1);
        x.set(0, 1);
        Due.is("diviner: no PLACE", x.diviner(1, 50), HowDeep.NO);
        Due.is("diviner: -1", x.diviner(0, -1), HowDeep.NO);
        Due.is("diviner: 101", x.diviner(0, 101), HowDeep.NO);
        Due.is("believe: no PLACE", x.believe(1), -5);
        Due.is("diviner: 100", x.diviner(0, 100), 24000000);
        Due.is("diviner: 0 is as good as 100", x.diviner(0, 0), 24000000);
        Due.is("diviner: 80", x.diviner(0, 80), 12400000);
        Due.is("diviner: 59", x.diviner(0, 59), 220000);
        Due.is("diviner: 58", x.diviner(0, 58), 0);
        Due.is("diviner: 50", x.diviner(0, 50), 0);
        Due.is("believe: 59", x.believe(0), 59);
        HowDeep w = new HowDeep();
        w.layer(20, 0, 0);
        Due.law(w, "cost 3;water base;fall 0;");
        Due.place(w, 1);
        w.set(0, 1);
        w.set(1, 20);
        Due.is("believe: 59 of smaller coins", w.believe(0), 59);
        HowDeep z = new HowDeep();
        z.layer(99, 0, 0);
        Due.law(z, "cost 100;water base;fall 0;");
        Due.place(z, 1);
        z.set(0, 1);
        Due.is("diviner: 99 of 99", z.diviner(0, 99), 0);
        Due.is("diviner: 100 of 99", z.diviner(0, 100), 1000000);
        Due.is("believe: 100", z.believe(0), 100);
        x.set(1, 100);
        // W 20, C 30, G -10, N 0, Q 1/5: NO of 50 is 10 - 15 coins, YES as much
        Due.is("diviner: G 0 at least", x.diviner(0, 100), 14000000);
        x.dig(0, 0);
        Due.is("diviner: DEEPEST is reached", x.diviner(0, 100), 0);
        Due.is("believe: DEEPEST is reached", x.believe(0), -1);
        HowDeep y = PlacesTest.plain();
        Due.place(y, 1, 1);
        y.set(0, 2);
        Due.is("diviner: nothing is left undug by him", y.diviner(0, 100), 0);
        Due.is("believe: none", y.believe(0), -1);
    }

    private static void falls() {
        HowDeep x = new HowDeep();
        Due.is("fall: -1", x.fall(-1, 0), HowDeep.NO);
        Due.is("fall: 6", x.fall(6, 0), HowDeep.NO);
        Due.is("fall: from -1", x.fall(1, -1), HowDeep.NO);
        Due.is("fall: from 6", x.fall(1, 6), HowDeep.NO);
        Due.is("fall: no YARD", x.fall(0, 3), 0);
        Due.is("fall: three YARDS", x.fall(3, 0), 115648);
        Due.law(x, "cost 30;water 1;fall 50-lined*50;");
        Due.is("fall: all lined", x.fall(5, 0), 0);
        Due.is("fall: two not lined", x.fall(5, 2), 750000);
        Due.is("fall: none lined, cut", x.fall(5, 5), 968750);
        Due.is("fall: from beyond its depth", x.fall(1, 5), 500000);
        x.set(0, 1);
        Due.is("fall: beyond DEEPEST", x.fall(5, 2), 750000);
        Due.law(x, "cost 30;water 1;fall 33;");
        Due.is("fall: cut one by one", x.fall(5, 5), 1000000 - 135012);
    }

    private static void lines() {
        HowDeep x = new HowDeep();
        Due.is("line: -1", x.line(-1), HowDeep.BAD);
        Due.is("line: 6", x.line(6), HowDeep.BAD);
        Due.is("line: 0", x.line(0), 0);
        Due.law(x, "cost 30;water 1;fall 50-lined*50;");
        Due.is("line: LINING 20", x.line(5), 0);
        x.set(4, 40);
        Due.is("line: LINING 40", x.line(5), 5);
        x.set(4, 9999);
        Due.is("line: dear", x.line(4), 4);
        x.set(4, 0);
        Due.is("line: for nothing", x.line(4), 0);
        Due.law(x, "cost 30;water 1;fall 0;");
        Due.is("line: of like ones the least", x.line(4), 0);
        // lining helps below YARD 2 alone: 60 * 0 .. against 9 for each YARD lined
        Due.law(x, "cost 20;water 1;fall (2<yard)*(50-lined*50);");
        x.set(4, 9);
        Due.is("line: the deep ones", x.line(4), 2);
    }
}
