/** Promises 6 to 9, THE TAPE, TEXTS, FAULTS and what an E is, at their bounds. */
public final class LawEdgesTest {
    private static final String PLAIN = "cost 1;water 1;fall 1;";
    private static final String FIRST_LAW = "cost 10 + yard * yard * 2 ; water base - season * 5 ; fall 2 * yard ;";

    public static void main(String[] args) {
        feedBounds();
        feedBytes();
        tapeFull();
        tapeEmpty();
        tapeWhole();
        tapeAnew();
        textsFull();
        anyByte();
        blanks();
        words();
        numbers();
        cutShort();
        tokens();
        opened();
        forceBounds();
        firstLaw();
        askBounds();
        lawBounds();
        names();
        truths();
        wraps();
        Due.end("LawEdgesTest");
    }

    private static void fault(String s, int place) {
        Due.is("FAULT of " + s, Due.text(new HowDeep(), s), -100 - place);
    }

    private static void stands(String s) {
        Due.is("a TEXT: " + s, Due.text(new HowDeep(), s), 1);
    }

    // ---- promise 6: n not 1 .. 8; FULL: 160 bytes at most; the n lowest bytes, the highest first

    private static void feedBounds() {
        HowDeep x = new HowDeep();
        Bounds.refused("feed: n", 1, 8, HowDeep.BAD, n -> x.feed('c', n));
        Due.is("feed: none came", x.count(11), 0);
        for (int n = 1, all = 1; n <= 8; n++, all += n) Due.is("feed: n " + n, x.feed(-1, n), all);
        Due.is("feed: Long.MIN_VALUE", x.feed(Long.MIN_VALUE, 8), 44);
        Due.is("feed: Long.MAX_VALUE", x.feed(Long.MAX_VALUE, 1), 45);
    }

    private static void feedBytes() {
        for (int n = 1; n <= 8; n++) {
            HowDeep x = new HowDeep();
            String s = (PLAIN + "        ").substring(0, (PLAIN.length() + n - 1) / n * n);
            for (int i = 0; i < s.length(); i += n) {
                long w = 0x7aa7817e35c2b1f4L;
                for (int k = 0; k < n; k++) w = w << 8 | s.charAt(i + k);
                x.feed(w, n);
            }
            Due.is("feed: the lowest " + n + " alone, the highest first", x.text(), 1);
        }
        HowDeep y = new HowDeep();
        y.feed(0x74736f63L, 4);
        Due.is("feed: not the lowest first", y.text(), -100);
    }

    private static void tapeFull() {
        for (int n = 1; n <= 8; n++) {
            HowDeep x = new HowDeep();
            for (int i = 0; i < 160 - n; i++) x.feed(' ', 1);
            Due.is("feed: to the last byte by " + n, x.feed(0, n), 160);
            Due.is("feed: a full TAPE and " + n, x.feed(0, n), HowDeep.FULL);
            HowDeep y = new HowDeep();
            for (int i = 0; i < 161 - n; i++) y.feed(' ', 1);
            Due.is("feed: one too many by " + n, y.feed(0, n), HowDeep.FULL);
            Due.is("feed: nothing of them came", y.count(11), 161 - n);
            Due.is("feed: nor can it be read", y.text(), -261 + n);
        }
    }

    // ---- promise 7: the place of its FAULT; THE TAPE is empty then, by a FAULT, too; FULL ahead of the FAULT

    private static void tapeEmpty() {
        HowDeep x = new HowDeep();
        Due.is("text: an empty TAPE", x.text(), -100);
        Due.is("text: still empty", x.text(), -100);
        x.feed(' ', 1);
        Due.is("text: a blank", x.text(), -101);
        x.feed('\n', 1);
        x.feed(' ', 1);
        Due.is("text: two blanks", x.text(), -102);
        for (int i = 0; i < 20; i++) x.feed(0x20200a20200a2020L, 8);
        Due.is("text: 160 blanks", x.text(), -260);
        Due.is("text: none came", x.count(9), 1);
        Due.is("text: and one that stands", Due.text(x, PLAIN), 1);
    }

    private static void tapeWhole() {
        HowDeep x = new HowDeep();
        String whole = "cost " + "1+".repeat(69) + "1;water 1;fall 1;";
        Due.is("text: of 160 bytes, these are", whole.length(), 160);
        Due.tape(x, whole);
        Due.is("text: all of them lie on THE TAPE", x.count(11), 160);
        Due.is("text: of 160 bytes", x.text(), 1);
        x.force(1);
        Due.is("text: of 160 bytes: COST", x.asks(0, 1, 0, 0), 70);
        Due.is("text: of 160 bytes: FALL", x.asks(2, 5, 0, 1), 1);
        fault("cost " + "1+".repeat(77) + "1", 160);
        fault("cost " + "1+".repeat(75) + "layer", 160);
        fault("cost " + "1+".repeat(75) + "1    ", 160);
        fault("cost " + "1+".repeat(75) + "1+1+(", 160);
        fault("cost " + "1+".repeat(75) + "1+1+)", 159);
        fault("cost " + "1+".repeat(75) + "layex", 155);
        fault("cost " + "1+".repeat(75) + "99999", 155);
        fault("cost " + "1+".repeat(75) + " 9999", 160);
    }

    private static void tapeAnew() {
        String[] before = {"1111111111111111111111111111", "yardyardyardyardyardyardyard", PLAIN + ";", PLAIN, "((((((((((((((((((((((((((((("};
        for (String b : before) {
            HowDeep x = new HowDeep();
            Due.text(x, b);
            Due.is("text: THE TAPE is empty behind " + b, x.count(11), 0);
            Due.is("text: and ends where its bytes end", Due.text(x, "cost 1"), -106);
            Due.is("text: by a WORD, too", Due.text(x, "cost yard"), -109);
            Due.is("text: and so one that stands", Due.text(x, PLAIN) > 0 ? 1 : 0, 1);
            Due.is("text: nothing is left of it", x.text(), -100);
        }
    }

    private static void textsFull() {
        HowDeep x = new HowDeep();
        for (int t = 1; t < 6; t++) Due.is("text: number " + t, Due.text(x, "cost 10+" + t + ";water 1;fall 1;"), t);
        Due.is("text: FULL, though THE TAPE is empty", x.text(), HowDeep.FULL);
        Due.tape(x, PLAIN);
        Due.is("text: FULL for one that stands", x.text(), HowDeep.FULL);
        Due.is("text: it stays on THE TAPE", x.count(11), PLAIN.length());
        Due.tape(x, "#");
        Due.is("text: FULL ahead of a FAULT", x.text(), HowDeep.FULL);
        Due.is("text: that stays, too", x.count(11), PLAIN.length() + 1);
        Due.is("text: six", x.count(9), 6);
        for (int t = 1; t < 6; t++) {
            x.force(t);
            Due.is("text: TEXT " + t + " is as it was", x.asks(0, 1, 0, 0), 10 + t);
        }
    }

    // ---- FAULT: a byte that begins none; TOKENS as long as can be; blanks (32, 10)

    private static void anyByte() {
        for (int b = 0; b < 256; b++) {
            char c = (char) b;
            boolean blank = b == 32 || b == 10;
            boolean digit = b >= '0' && b <= '9';
            boolean letter = b >= 'a' && b <= 'z';
            fault("cost " + c, blank || digit || c == '(' || c == '-' ? 6 : 5);
            if (digit || "+-*<=".indexOf(c) >= 0) stands("cost 1" + c + "1;water 1;fall 1;");
            else fault("cost 1" + c + "1;water 1;fall 1;", blank || c == ';' ? 7 : 6);
            fault("cost yard" + c + ",", letter ? 5 : blank || ";+-*<=".indexOf(c) >= 0 ? 10 : 9);
            fault("cost 5555" + c + ",", digit ? 5 : blank || ";+-*<=".indexOf(c) >= 0 ? 10 : 9);
            if (blank) stands(c + PLAIN);
            else fault(c + PLAIN, 0);
            if (blank) stands(PLAIN + c);
            else fault(PLAIN + c, PLAIN.length());
        }
    }

    private static void blanks() {
        stands("cost1;water1;fall1;");
        stands("\n \ncost\n\n( ( 1 ) )\n or  not yard ;\nwater - 1 ; fall 1\n;\n\n");
        fault("co st 1;water 1;fall 1;", 0);
        fault("cost ya rd;water 1;fall 1;", 5);
        fault("cost 1 2;water 1;fall 1;", 7);
        fault("cost 1 a nd 1;water 1;fall 1;", 7);
        fault("cost notyard;water 1;fall 1;", 5);
        fault("cost 1oryard;water 1;fall 1;", 6);
        stands("cost not(yard)or(1)and-2<1;water 1;fall 1;");
        stands("cost 1or 2and 3;water 1;fall 1;");
    }

    private static void words() {
        String[] all = {"cost", "water", "fall", "or", "and", "not", "yard", "layer", "base", "salt", "season", "lined"};
        for (String w : all) {
            String around = w.equals("cost") ? "#1;water 1;fall 1;" : w.equals("water") ? "cost 1;#1;fall 1;"
                : w.equals("fall") ? "cost 1;water 1;#1;" : w.equals("or") || w.equals("and") ? "cost 1 #1;water 1;fall 1;"
                : w.equals("not") ? "cost #1;water 1;fall 1;" : "cost 1+#;water 1;fall 1;";
            int place = around.indexOf('#');
            stands(around.replace("#", w));
            fault(around.replace("#", w.substring(0, w.length() - 1)), place);
            fault(around.replace("#", w + "s"), place);
            fault(around.replace("#", "a" + w), place);
            fault(around.replace("#", w + w), place);
            fault(around.replace("#", "z" + w.substring(1)), place);
            fault(around.replace("#", w.substring(0, w.length() - 1) + "z"), place);
            fault(around.replace("#", w.toUpperCase()), place);
            for (String other : all) {
                boolean joins = w.equals("or") && other.equals("and") || w.equals("and") && other.equals("or");
                boolean named = place == 7 && around.startsWith("cost 1+") && "yardlayerbasesaltseasonlined".contains(other);
                if (!other.equals(w) && !joins && !named) {
                    // a NAME or a not in a not's place begins an E; then 1 can't stand behind a NAME
                    boolean begins = w.equals("not") && "yardlayerbasesaltseasonlined".contains(other);
                    fault(around.replace("#", other + " "), begins ? place + other.length() + 1 : place);
                }
            }
        }
    }

    private static void numbers() {
        for (String n : new String[] {"0", "9", "10", "99", "100", "999", "1000", "9999", "0000", "0009"}) {
            stands("cost " + n + ";water 1;fall 1;");
        }
        for (String n : new String[] {"10000", "00000", "00001", "99999", "123456789012345678901"}) {
            fault("cost " + n + ";water 1;fall 1;", 5);
            fault("cost 1+" + n + ";water 1;fall 1;", 7);
        }
        cost("0000", 0);
        cost("0012", 12);
        cost("0999", 999);
        cost("9999-9998", 1);
        fault("cost 9999 9;water 1;fall 1;", 10);
    }

    /** (the text's size, if it ends too early); a WORD that is cut is none. */
    private static void cutShort() {
        for (int size = 0; size < FIRST_LAW.length(); size++) {
            String s = FIRST_LAW.substring(0, size);
            int from = size;
            while (from > 0 && Character.isLetter(s.charAt(from - 1))) from--;
            String word = s.substring(from);
            boolean whole = word.isEmpty() || " cost water fall yard base season ".contains(" " + word + " ");
            fault(s, whole ? size : from);
        }
        stands(FIRST_LAW);
        fault(FIRST_LAW + FIRST_LAW, FIRST_LAW.length());
    }

    private static final String[] BEHIND_ALL = {"1", "yard", "(1)", "-1", "-(1)"};

    /** The first TOKEN that can't stand there. */
    private static void tokens() {
        String end = ";water 1;fall 1;";
        for (String t : new String[] {")", ";", "+", "*", "<", "=", "or", "and", "cost", "water", "fall"}) {
            fault("cost " + t + end, 5);
            fault("cost (" + t + end, 6);
            fault("cost -" + t + end, 6);
            fault("cost not " + t + end, 9);
            fault("cost 1+" + t + end, 7);
            fault("cost 1-" + t + end, 7);
            fault("cost 1*" + t + end, 7);
            fault("cost 1<" + t + end, 7);
            fault("cost 1=" + t + end, 7);
            fault("cost 1 or " + t + end, 10);
            fault("cost 1 and " + t + end, 11);
        }
        for (String t : BEHIND_ALL) {
            for (String by : new String[] {"+", "-", "*", "<", "=", " or ", " and "}) stands("cost 1" + by + t + end);
            for (String next : new String[] {" 1", " yard", "(1)", " not 1", " cost 1", ")"}) {
                fault("cost " + t + next + end, 5 + t.length() + (next.startsWith(" ") ? 1 : 0));
            }
        }
        for (String by : new String[] {"+", "-", "*", "<", "=", "-("}) {
            fault("cost 1" + by + (by.equals("-(") ? "1<" : "") + "not 1" + end, 6 + by.length() + (by.equals("-(") ? 2 : 0));
        }
        for (String t : new String[] {"<", "="}) {
            fault("cost 1<2" + t + "3" + end, 8);
            fault("cost 1=2" + t + "3" + end, 8);
            fault("cost not 1<2" + t + "3" + end, 12);
            stands("cost 1<2 or 2" + t + "3" + end);
            stands("cost 1<2 and not 2" + t + "3" + end);
            stands("cost (1<2)" + t + "3" + end);
        }
        stands("cost not not 1 and not(not 1)" + end);
        fault("cost 1;;water 1;fall 1;", 7);
        fault("cost 1;cost 1;fall 1;", 7);
        fault("cost 1;fall 1;", 7);
        fault("cost 1;water 1;water 1;", 15);
        fault("cost 1;water 1;fall 1;cost 1;", 22);
        fault("1;water 1;fall 1;", 0);
        fault(";cost 1;water 1;fall 1;", 0);
        fault("cost 1 water 1;fall 1;", 7);
        fault("cost 1;water 1 fall 1;", 15);
    }

    /** 5 may be open, of whatever sort, and a sixth can't stand there; what is closed doesn't count. */
    private static void opened() {
        String end = ";water 1;fall 1;";
        for (int a = 0; a <= 5; a++) {
            for (int b = 0; a + b <= 5; b++) {
                int c = 5 - a - b;
                // a ( , b not and c - : the not can't stand behind a -
                String five = "(".repeat(a) + "not ".repeat(b) + "-".repeat(c);
                String closed = ")".repeat(a);
                int place = 5 + five.length();
                stands("cost " + five + "1" + closed + end);
                stands("cost " + five + "1" + closed + " or " + five + "1" + closed + end);
                stands("cost " + five + "yard*2-3-4<5*6" + closed + end);
                fault("cost " + five + "(1)" + closed + end, place);
                fault("cost " + five + "-1" + closed + end, place);
                if (c == 0) fault("cost " + five + "not 1" + closed + end, place);
                fault("cost 1 or " + five + "1" + closed + " and " + five + "-1" + closed + end,
                    2 * five.length() + closed.length() + 16);
            }
        }
        // a not is open till its SUM and what that is compared with end; a - till its ONE ends
        fault("cost not not not not not 1=-1" + end, 27);
        stands("cost not not not not not 1=1 or -1" + end);
        stands("cost -----1*-1" + end);
        stands("cost -----1--1" + end);
        stands("cost (((-1-(-1))))" + end);
        fault("cost ((((-1-(-1)))))" + end, 13);
        stands("cost -(-(-1))" + end);
        fault("cost -(-(-(1)))" + end, 10);
        // a part of its own begins with none open
        stands("cost (((((1)))));water -----1;fall not not not not not 1;");
        fault("cost (((((1)))));water -----1;fall not not not not not not 1;", 55);
        fault("cost 1;water ------1;fall 1;", 18);
    }

    // ---- promise 8: A TEXT is THE LAW; BAD

    private static void forceBounds() {
        HowDeep x = new HowDeep();
        Bounds.refused("force: one TEXT,", 0, 0, HowDeep.BAD, t -> x.force(t));
        Due.is("force: TEXT 0 is THE LAW yet", x.force(0), 0);
        for (int t = 1; t < 6; t++) {
            Due.text(x, "cost 1+" + t + ";water 1;fall 1;");
            Due.is("force: the last one", x.force(t), t - 1);
            Due.is("force: its COST", x.asks(0, 1, 0, 0), 1 + t);
            Due.is("force: the first that is none", x.force(t + 1), HowDeep.BAD);
            Due.is("force: THE LAW stays", x.count(10), t);
        }
        Bounds.refused("force: six TEXTS,", 0, 5, HowDeep.BAD, t -> x.force(t));
        Bounds.taken("force: six TEXTS,", 0, 5, 5, 0, t -> x.force(t));
        Due.is("force: the one that it is", x.force(5), 5);
    }

    // ---- TEXT 0; promise 9: part, yard, lined; -5: part 1: no such LAYER

    private static void firstLaw() {
        HowDeep x = new HowDeep();
        x.layer(0, 9, 0);
        x.layer(45, 0, 0);
        x.layer(46, 0, 0);
        x.layer(100, 0, 0);
        int[] water = {0, 0, 1, 55};
        for (int turn = 0; turn < 2; turn++) {
            x.set(2, 9);
            for (int yard = 1; yard <= 5; yard++) {
                Due.is("TEXT 0: COST " + yard, x.asks(0, yard, 0, 0), 10 + 2 * yard * yard);
                Due.is("TEXT 0: FALL " + yard, x.asks(2, yard, 0, turn), 2 * yard);
                for (int j = 0; j < 4; j++) Due.is("TEXT 0: WATER " + yard, x.asks(1, yard, j, turn), water[j]);
            }
            Due.law(x, FIRST_LAW);
        }
    }

    private static void askBounds() {
        HowDeep x = new HowDeep();
        for (int j = 0; j < 5; j++) x.layer(20 + j, 0, 0);
        Due.law(x, "cost 100+yard;water base+yard;fall yard+lined*50;");
        Bounds.refused("asks: part", 0, 2, HowDeep.BAD, v -> x.asks(v, 1, 0, 0));
        Bounds.taken("asks: part", 0, 2, 101, 1, v -> x.asks(v, 1, 0, 0));
        int[] least = {101, 21, 1};
        for (int part = 0; part < 3; part++) {
            int of = part;
            Bounds.refused("asks " + part + ": YARD", 1, 5, HowDeep.BAD, v -> x.asks(of, v, 0, 0));
            Bounds.refused("asks " + part + ": lined", 0, 1, HowDeep.BAD, v -> x.asks(of, 1, 0, v));
            Bounds.taken("asks " + part + ": YARD", 1, 5, least[part], least[part] + 4, v -> x.asks(of, v, 0, 0));
            Bounds.taken("asks " + part + ": lined", 0, 1, least[part], least[part] + (part == 2 ? 50 : 0), v -> x.asks(of, 1, 0, v));
        }
        Bounds.refused("asks: LAYER", 0, 4, -5, v -> x.asks(1, 1, v, 0));
        Bounds.taken("asks: LAYER", 0, 4, 21, 25, v -> x.asks(1, 1, v, 0));
        Bounds.refused("asks: COST needs no LAYER,", 0, 4, 101, v -> x.asks(0, 1, v, 0));
        Bounds.refused("asks: FALL needs no LAYER,", 0, 4, 51, v -> x.asks(2, 1, v, 1));
        HowDeep none = new HowDeep();
        Due.is("asks: no LAYERS", none.asks(1, 1, 0, 0), -5);
        Due.is("asks: no LAYERS, but a COST", none.asks(0, 1, 0, 0), 12);
    }

    /** COST (0 .. 999, else the bound), WATER and FALL (0 .. 100, else the bound). */
    private static void lawBounds() {
        String greatest = "9999*9999*21+9999*4790+8416";
        String[] e = {"0-1", "0", "1", "0-9999", "-(" + greatest + ")", "-(" + greatest + ")-1", greatest};
        int[] low = {0, 0, 1, 0, 0, 0, -1};
        for (int i = 0; i < e.length; i++) {
            part(0, e[i], low[i] < 0 ? 999 : low[i]);
            part(1, e[i], low[i] < 0 ? 100 : low[i]);
            part(2, e[i], low[i] < 0 ? 100 : low[i]);
        }
        int[] v = {99, 100, 101, 998, 999, 1000, 9999};
        for (int n : v) {
            part(0, "" + n, Math.min(n, 999));
            part(1, "" + n, Math.min(n, 100));
            part(2, "" + n, Math.min(n, 100));
        }
    }

    private static void part(int part, String e, int want) {
        HowDeep x = new HowDeep();
        x.layer(50, 5, 1);
        String other = "5";
        Due.law(x, "cost " + (part == 0 ? e : other) + ";water " + (part == 1 ? e : other) + ";fall " + (part == 2 ? e : other) + ";");
        for (int yard = 1; yard <= 5; yard += 4) {
            for (int p = 0; p < 3; p++) {
                Due.is("part " + p + " by " + e, x.asks(p, yard, 0, 0), p == part ? want : 5);
                Due.is("part " + p + " lined by " + e, x.asks(p, yard, 0, 1), p == part ? want : 5);
            }
        }
    }

    /** What each NAME is in each part. */
    private static void names() {
        HowDeep x = new HowDeep();
        x.layer(1, 2, 1);
        x.layer(30, 7, 2);
        x.set(2, 4);
        Due.law(x, "cost yard+season*10+layer*200+base*200+salt*200+lined*200;"
            + "water yard+layer*10+base+salt-season+lined*9;fall yard+season*3+lined*40+layer*9+base*9+salt*9;");
        for (int yard = 1; yard <= 5; yard++) {
            for (int lined = 0; lined < 2; lined++) {
                for (int j = 0; j < 2; j++) {
                    Due.is("NAMES: COST", x.asks(0, yard, j, lined), yard + 40);
                    Due.is("NAMES: WATER", x.asks(1, yard, j, lined), j == 0 ? yard - 1 : yard + 43);
                    Due.is("NAMES: FALL", x.asks(2, yard, j, lined), yard + 12 + 40 * lined);
                }
            }
        }
        x.set(2, 0);
        Due.is("NAMES: COST in another SEASON", x.asks(0, 1, 0, 0), 1);
        Due.is("NAMES: WATER in another SEASON", x.asks(1, 1, 1, 0), 48);
        Due.is("NAMES: FALL in another SEASON", x.asks(2, 1, 0, 0), 1);
    }

    private static void cost(String e, int want) {
        HowDeep x = new HowDeep();
        Due.law(x, "cost " + e + ";water 1;fall 1;");
        Due.is("COST of YARD 3 by " + e, x.asks(0, 3, 0, 0), want);
    }

    /** 1 or 0 (what is not 0 is true). */
    private static void truths() {
        int[] v = {-2, -1, 0, 1, 2};
        for (int a : v) {
            String left = a < 0 ? "-" + -a : "" + a;
            cost("5+(not " + left + ")", a == 0 ? 6 : 5);
            cost("5+(not not " + left + ")", a == 0 ? 5 : 6);
            for (int b : v) {
                String right = b < 0 ? "-" + -b : "" + b;
                cost("5+(" + left + " or " + right + ")", a != 0 || b != 0 ? 6 : 5);
                cost("5+(" + left + " and " + right + ")", a != 0 && b != 0 ? 6 : 5);
                cost("5+(" + left + "<" + right + ")", a < b ? 6 : 5);
                cost("5+(" + left + "=" + right + ")", a == b ? 6 : 5);
            }
        }
        cost("0 or 0 or 3", 1);
        cost("1 and 2 and 0", 0);
        cost("1 and 2 and 3", 1);
        cost("not 1 and 0", 0);
        cost("not 0 and 0", 0);
        cost("not 1 or 1", 1);
        cost("not 2 = 3", 1);
        cost("1 < 2 and 2 < 1 or 7", 1);
        cost("0 or 1 and 0", 0);
        cost("--5", 5);
        cost("-1*-1+-1", 0);
        cost("2*-3+7", 1);
        cost("9-2*3-1", 2);
        cost("-2-3+9", 4);
    }

    /** (32 bits, wrapping): 99980001 * 21 + 9999 * 4790 + 8416 is 2147483647. */
    private static void wraps() {
        String max = "9999*9999*21+9999*4790+8416";
        cost("(" + max + "=2147*1000*1000+483*1000+647)*7", 7);
        cost("(" + max + "<0)+1", 1);
        cost("(" + max + "+1<0)+1", 2);
        cost("(" + max + "+2=-(" + max + "))+1", 2);
        cost("(-(" + max + ")-1<0)+1", 2);
        cost("(-(" + max + ")-2=" + max + ")+1", 2);
        cost("-(" + max + ")-2", 999);
        cost("(8192*8192*32<0)+1", 2);
        cost("(-(8192*8192*32)<0)+1", 2);
        cost("(-(8192*8192*32)=8192*8192*32)+1", 2);
        cost("(8192*8192*32-1=" + max + ")+1", 2);
        cost("8192*8192*64+3", 3);
        cost("8192*8192*-64+3", 3);
        cost("(8192*8192*-32=8192*8192*32)+1", 2);
        cost("4096*16*4096*16*5+4", 4);
        cost("(8192*8192*32)*(8192*8192*32)+6", 6);
        cost("(8192*8192*32)*3-8192*8192*32+8", 8);
        cost(max + "+9999-(" + max + ")-9900", 99);
        cost("(8192*8192*32<1)+1", 2);
        cost("(" + max + "<-1)+1", 1);
        cost("(-1<" + max + ")+1", 2);
        cost("(1<8192*8192*32)+1", 1);
        cost("5+(8192*8192*64 or 0)", 5);
        cost("5+(8192*8192*64 and 1)", 5);
        cost("5+(8192*8192*32 and 1)", 6);
        cost("not 8192*8192*64", 1);
        part(1, "8192*8192*64+3", 3);
        part(2, "8192*8192*64+3", 3);
        part(1, max + "+1", 0);
        part(2, max + "+1", 0);
        part(2, "-(" + max + ")-2", 100);
    }
}
