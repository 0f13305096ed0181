/** Promises 6 to 9: THE TAPE, TEXTS and their FAULTS, THE LAW, what it asks. */
public final class LawTest {
    public static void main(String[] args) {
        feeds();
        texts();
        faults();
        open();
        forces();
        asks();
        worth();
        Due.end("LawTest");
    }

    private static void feeds() {
        HowDeep x = new HowDeep();
        Due.is("feed: n 0", x.feed(0, 0), HowDeep.BAD);
        Due.is("feed: n 9", x.feed(0, 9), HowDeep.BAD);
        Due.is("feed: n -1", x.feed(0, -1), HowDeep.BAD);
        Due.is("feed: one", x.feed('c', 1), 1);
        Due.is("feed: the highest first, what lies above is left", x.feed(0xff6f73L, 2), 3);
        Due.is("feed: nothing of a FULL one comes", x.count(11), 3);
        Due.tape(x, "t 3;water 4;fall 5;");
        Due.is("feed: together a TEXT", x.text(), 1);
        for (int i = 1; i <= 20; i++) Due.is("feed: eight", x.feed(0, 8), 8 * i);
        Due.is("feed: FULL", x.feed(0, 1), HowDeep.FULL);
        Due.is("feed: BAD ahead of FULL", x.feed(0, 9), HowDeep.BAD);
        Due.is("feed: 160 stay", x.count(11), 160);
        HowDeep y = new HowDeep();
        for (int i = 1; i <= 19; i++) y.feed(-1, 8);
        y.feed(-1, 7);
        Due.is("feed: 159 and 2", y.feed(-1, 2), HowDeep.FULL);
        Due.is("feed: 159 and 1", y.feed(-1, 1), 160);
    }

    private static void texts() {
        HowDeep x = new HowDeep();
        Due.is("text: nothing on THE TAPE", x.text(), -100);
        for (int t = 1; t <= 5; t++) {
            Due.is("text: number", Due.text(x, "cost " + t + ";water 1;fall 1;"), t);
            Due.is("text: THE TAPE is empty then", x.count(11), 0);
        }
        Due.tape(x, "cost");
        Due.is("text: FULL ahead of a FAULT", x.text(), HowDeep.FULL);
        Due.is("text: THE TAPE stays", x.count(11), 4);
        Due.is("text: six", x.count(9), 6);
        Due.is("text: a text is not THE LAW yet", x.count(10), 0);
        HowDeep y = new HowDeep();
        Due.is("text: a FAULT", Due.text(y, "cost"), -104);
        Due.is("text: THE TAPE is empty by a FAULT, too", y.count(11), 0);
        Due.is("text: no text by a FAULT", y.count(9), 1);
        String eight = "1+1+1+1+1+1+1+1+";
        String most = "cost " + eight.repeat(7) + "1;water 1;fall 1;";
        for (int turn = 0; turn < 9; turn++) Due.is("text: a long FAULT", Due.text(y, most + "#"), -100 - most.length());
        Due.law(y, most);
        Due.is("text: long ones", y.asks(0, 1, 0, 0), 57);
        Due.is("text: its WATER is 0, for there is no LAYER; its FALL", y.asks(2, 1, 0, 0), 1);
    }

    private static void fault(String s, int place) {
        Due.is("text " + s, Due.text(new HowDeep(), s), place < 0 ? 1 : -100 - place);
    }

    private static void faults() {
        fault("cost 1;water 1;fall 1;", -1);
        fault("cost1;water1;fall1;", -1);
        fault(" \n cost\n1 ; water 1 ;fall 1 ; \n", -1);
        fault("cost 1;water 1;fall 1", 21);
        fault("cost 1;water 1;fall 1  ", 23);
        fault("cost 1;water 1;fall 1;;", 22);
        fault("cost 1;water 1;fall 1; cost", 23);
        fault("water 1;water 1;fall 1;", 0);
        fault("cost 1;fall 1;water 1;", 7);
        fault("cost ;water 1;fall 1;", 5);
        fault("cost 1 2;water 1;fall 1;", 7);
        fault("cost 10000;water 1;fall 1;", 5);
        fault("cost 9999;water 1;fall 1;", -1);
        fault("cost 00001;water 1;fall 1;", 5);
        fault("cost yards;water 1;fall 1;", 5);
        fault("cost yar;water 1;fall 1;", 5);
        fault("costs 1;water 1;fall 1;", 0);
        fault("most 1;water 1;fall 1;", 0);
        fault("cost nard;water 1;fall 1;", 5);
        fault("cost yardz;water 1;fall 1;", 5);
        fault("cost - x 1;water 1;fall 1;", 7);
        fault("cost seasonal;water 1;fall 1;", 5);
        fault("cost Yard;water 1;fall 1;", 5);
        fault("cost 1 # 2;water 1;fall 1;", 7);
        fault("cost 1\t;water 1;fall 1;", 6);
        fault("cost 1\r;water 1;fall 1;", 6);
        fault("cost 1 + ;water 1;fall 1;", 9);
        fault("cost + 1;water 1;fall 1;", 5);
        fault("cost 1 < 2 < 3;water 1;fall 1;", 11);
        fault("cost (1 < 2) = 1;water 1;fall 1;", -1);
        fault("cost - not 1;water 1;fall 1;", 7);
        fault("cost 1 + not 1;water 1;fall 1;", 9);
        fault("cost 1 or not 1 and not 0;water 1;fall 1;", -1);
        fault("cost 1 not 1;water 1;fall 1;", 7);
        fault("cost (1;water 1;fall 1;", 7);
        fault("cost (1);water 1;fall 1;", -1);
        fault("cost 1);water 1;fall 1;", 6);
        fault("cost ();water 1;fall 1;", 6);
        fault("cost 1 or;water 1;fall 1;", 9);
        fault("cost or;water 1;fall 1;", 5);
        fault("cost water;water 1;fall 1;", 5);
        fault("cost 1--1;water yard-1;fall -1;", -1);
        fault("cost \u00e9;water 1;fall 1;", 5);
        fault("cost 1;water yard layer;fall 1;", 18);
        fault("cost yard layer base salt", 10);
        fault("cost yard*layer+base-salt*season<lined;water lined=1 and yard;fall base;", -1);
    }

    private static void open() {
        fault("cost (((((1)))));water 1;fall 1;", -1);
        fault("cost ((((((1))))));water 1;fall 1;", 10);
        fault("cost -----1;water 1;fall 1;", -1);
        fault("cost ------1;water 1;fall 1;", 10);
        fault("cost not not not not not 1;water 1;fall 1;", -1);
        fault("cost not not not not not not 1;water 1;fall 1;", 25);
        fault("cost not (-(not 1));water 1;fall 1;", -1);
        fault("cost not (-(not -1));water 1;fall 1;", 16);
        fault("cost -----1 + -----1;water 1;fall 1;", -1);
        fault("cost not not not not not 1 and not not not not not 1;water 1;fall 1;", -1);
        fault("cost (((((1)))))*(((((2)))));water 1;fall 1;", -1);
        fault("cost not not not not not 1 < (2);water 1;fall 1;", 29);
        fault("cost ((((1 - -1))));water 1;fall 1;", -1);
        fault("cost (((((1 - -1)))));water 1;fall 1;", 14);
        fault("cost (((((1 - 1)))));water 1;fall 1;", -1);
    }

    private static void forces() {
        HowDeep x = new HowDeep();
        Due.is("force: no TEXT 1", x.force(1), HowDeep.BAD);
        Due.is("force: -1", x.force(-1), HowDeep.BAD);
        Due.text(x, "cost 7;water 1;fall 1;");
        Due.is("force: which was", x.force(1), 0);
        Due.is("force: THE LAW", x.count(10), 1);
        Due.is("force: its COST", x.asks(0, 1, 0, 0), 7);
        Due.is("force: which was then", x.force(0), 1);
        Due.is("force: COST of TEXT 0", x.asks(0, 1, 0, 0), 12);
    }

    private static void asks() {
        HowDeep x = new HowDeep();
        x.layer(40, 3, 1);
        x.layer(90, 8, 2);
        Due.law(x, "cost yard*1000+layer+base+salt+lined-season;water layer*50+base+salt+lined*70-yard*season;"
            + "fall yard*7+lined*10+layer+base+salt+season;");
        Due.is("asks: COST bound", x.asks(0, 1, 1, 0), 999);
        Due.is("asks: WATER of LAYER 0", x.asks(1, 1, 0, 0), 43);
        Due.is("asks: WATER bound", x.asks(1, 1, 1, 0), 100);
        Due.is("asks: lined counts as 0 for WATER", x.asks(1, 1, 0, 1), 43);
        Due.is("asks: FALL", x.asks(2, 2, 0, 0), 14);
        Due.is("asks: FALL lined", x.asks(2, 2, 0, 1), 24);
        x.set(2, 9);
        Due.is("asks: WATER by SEASON", x.asks(1, 4, 0, 0), 7);
        Due.is("asks: WATER 0 at least", x.asks(1, 5, 0, 0), 0);
        Due.is("asks: FALL by SEASON", x.asks(2, 2, 1, 0), 23);
        Due.law(x, "cost yard-2-lined-layer;water 0-base;fall yard*99;");
        Due.is("asks: COST 0 at least", x.asks(0, 1, 1, 1), 0);
        Due.is("asks: COST", x.asks(0, 5, 1, 1), 3);
        Due.is("asks: FALL bound", x.asks(2, 5, 0, 0), 100);
        Due.is("asks: part -1", x.asks(-1, 1, 0, 0), HowDeep.BAD);
        Due.is("asks: part 3", x.asks(3, 1, 0, 0), HowDeep.BAD);
        Due.is("asks: YARD 0", x.asks(0, 0, 0, 0), HowDeep.BAD);
        Due.is("asks: YARD 6", x.asks(0, 6, 0, 0), HowDeep.BAD);
        Due.is("asks: lined 2", x.asks(2, 1, 0, 2), HowDeep.BAD);
        Due.is("asks: lined -1", x.asks(2, 1, 0, -1), HowDeep.BAD);
        Due.is("asks: no LAYER 2", x.asks(1, 1, 2, 0), -5);
        Due.is("asks: no LAYER -1", x.asks(1, 1, -1, 0), -5);
        Due.is("asks: BAD ahead of -5", x.asks(1, 6, -1, 0), HowDeep.BAD);
        Due.is("asks: COST needs no LAYER", x.asks(0, 5, 9, 0), 3);
        x.set(0, 1);
        Due.is("asks: beyond DEEPEST", x.asks(0, 5, 0, 0), 3);
    }

    private static void cost(String e, int want) {
        HowDeep x = new HowDeep();
        Due.law(x, "cost " + e + ";water 1;fall 1;");
        Due.is("COST of YARD 3 by " + e, x.asks(0, 3, 0, 0), want);
    }

    private static void worth() {
        cost("2+3*4", 14);
        cost("(2+3)*4", 20);
        cost("20-3-4", 13);
        cost("20-(3-4)", 21);
        cost("-yard*-4", 12);
        cost("5--5", 10);
        cost("7 or 0", 1);
        cost("0 or 0", 0);
        cost("7 and 2", 1);
        cost("1 and 1", 1);
        cost("7 and 0", 0);
        cost("not 7", 0);
        cost("not 0", 1);
        cost("not not 7", 1);
        cost("7", 7);
        cost("1 or 1 and 0", 1);
        cost("(1 or 1) and 0", 0);
        cost("not 1 or 1", 1);
        cost("not 3 < 2", 1);
        cost("1+1<3", 1);
        cost("3<3", 0);
        cost("yard=3", 1);
        cost("yard=4", 0);
        cost("5+(yard=3)*2", 7);
        cost("9999*9999*43", 999);
        cost("9999*9999*22", 0);
        cost("(9999*9999*43)<0", 0);
        cost("9999*9999*22<0", 1);
        cost("season+lined+layer+base+salt", 0);
    }
}
