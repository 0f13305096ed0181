import java.util.ArrayList;
import java.util.Arrays;
import java.util.HashMap;
import java.util.List;
import java.util.Map;

/**
 * REFUSALS change nothing, and what is asked changes nothing: an object that was called so answers all that comes then as
 * a like one that was not. What can be seen takes several views, each on objects of its own, for looking may change them.
 */
public final class UnchangedTest {
    private static final int VIEWS = 7;
    private static final Map<String, long[]> SEEN = new HashMap<>();

    private interface Call {
        long on(HowDeep x);
    }

    public static void main(String[] args) {
        Due.holds("the views tell objects apart", tellApart());
        refusedByNone();
        refusedByBad();
        refusedByHost();
        refusedByState();
        refusedByFull();
        asked();
        askedOfYards();
        Due.end("UnchangedTest");
    }

    // ---- the objects

    private static final String SOME = "some", FULL = "full", EMPTY = "empty";

    private static HowDeep made(String which) {
        if (which.equals(FULL)) return full();
        return which.equals(SOME) ? some() : empty();
    }

    /** No PLACES, a SHEET of 20 numbers, and half a TEXT. */
    private static HowDeep empty() {
        HowDeep x = new HowDeep();
        for (int j = 0; j < 4; j++) x.layer(10 + j, j, j % 3);
        Due.tape(x, "cost 77;wat");
        int[] numbers = new int[20];
        for (int i = 0; i < 20; i++) numbers[i] = 70 + i;
        Due.sheet(x, 0, 2, numbers);
        x.sheet(1, 0, 3);
        x.sheet(2, 1, 3);
        return x;
    }

    /** Three PLACES, an IMAGE and what was changed since, half a TEXT; PLACE 1 has water, 2 CAN'T BE. */
    private static HowDeep some() {
        HowDeep x = new HowDeep();
        for (int j = 0; j < 3; j++) x.layer(20 + 20 * j, 3 * j, j);
        for (int i = 0; i < 3; i++) for (int j = 0; j < 3; j++) x.follow(i, j, 1 + i + 2 * j);
        for (int p = 0; p < 3; p++) Due.place(x, p == 2 ? 0 : 3, p, 5);
        x.ties(0, 1, 30);
        x.ties(1, 2, 60);
        x.rule(3, 0, 0);
        x.rule(5, 3, 4);
        x.farm(10, 3);
        x.farm(40, 2);
        x.farm(70, 4);
        Due.law(x, "cost 7+yard;water base-season;fall 9*yard-lined*4;");
        x.dig(0, 0);
        x.dig(1, 2);
        x.image();
        int[] settings = {3, 333, 3, 33, 3};
        for (int what = 0; what < 5; what++) x.set(what, settings[what]);
        x.follow(0, 1, 8);
        x.ties(0, 2, 90);
        x.dig(0, 1);
        x.dig(1, 3);
        x.dig(2, 0);
        Due.text(x, "cost 3;water 50;fall 3;");
        Due.tape(x, "cost 88;wat");
        Due.sheet(x, 0, 2, 2, 1, 0);
        Due.sheet(x, 1, 0, 60, 70, 80);
        Due.sheet(x, 2, 1, 1, 2);
        x.sheet(3, -1, 0);
        return x;
    }

    /** All there is room for; at each PLACE DEEPEST is reached. */
    private static HowDeep full() {
        HowDeep x = new HowDeep();
        for (int j = 0; j < 5; j++) x.layer(20 * j, j, j % 2);
        for (int p = 0; p < 4; p++) Due.place(x, 1, 1, p, 1, 1);
        for (int r = 0; r < 8; r++) x.rule(r % 6, 4, 4);
        for (int f = 0; f < 6; f++) x.farm(10 * f, 1 + f);
        for (int t = 1; t < 6; t++) Due.text(x, "cost 10+" + t + ";water base;fall 5;");
        Due.tape(x, "cost 99;water 1;fall 1;" + " ".repeat(137));
        x.set(0, 2);
        for (int p = 0; p < 4; p++) for (int y = 0; y < 2; y++) x.dig(p, y);
        Due.sheet(x, 0, 2, 1, 2, 3, 4, 5);
        return x;
    }

    // ---- the views

    private static long[] seen(int view, HowDeep x) {
        List<Long> all = new ArrayList<>();
        switch (view) {
            case 0: numbers(x, all); break;
            case 1: worths(x, all); break;
            case 2: ground(x, all); break;
            case 3: tape(x, all); break;
            case 4: sheets(x, 0, all); break;
            case 5: sheets(x, 1, all); break;
            default: image(x, all); break;
        }
        long[] row = new long[all.size()];
        for (int i = 0; i < row.length; i++) row[i] = all.get(i);
        return row;
    }

    private static void numbers(HowDeep x, List<Long> all) {
        for (int what = 0; what <= 11; what++) all.add((long) x.count(what));
        for (int yard = 1; yard <= 5; yard++) {
            all.add((long) x.asks(0, yard, 0, 0));
            for (int j = 0; j < 5; j++) all.add((long) x.asks(1, yard, j, 0));
            for (int lined = 0; lined < 2; lined++) all.add((long) x.asks(2, yard, 0, lined));
        }
        for (int p = 0; p < 4; p++) {
            for (int what = 0; what <= 11; what++) all.add((long) x.told(p, what));
            for (int j = 0; j < 5; j++) all.add(x.think(p, j));
            all.add(x.likely(p));
        }
        for (int r = 0; r < 8; r++) for (int what = 0; what < 3; what++) all.add((long) x.ruleTold(r, what));
        for (int set = 1; set < 64; set = 2 * set) {
            all.add((long) x.share(set, 0));
            all.add((long) x.share(set | 1, 1));
        }
    }

    private static void worths(HowDeep x, List<Long> all) {
        for (int p = 0; p < 4; p++) {
            all.add(x.best(p));
            all.add((long) x.back(p));
            all.add((long) x.index(p));
            all.add((long) x.right(p));
            all.add(x.bore(p, 2));
            all.add((long) x.far(p, 1));
            all.add(x.diviner(p, 90));
            all.add((long) x.believe(p));
            all.add(x.learn(p));
            for (int r = 0; r < 2; r++) {
                for (int what = 0; what < 4; what++) all.add(x.mean(r, p, what));
                for (int what = 0; what < 3; what++) all.add((long) x.drawn(r, p, 7, what));
                all.add((long) x.goesBy(r, p));
            }
        }
        for (int d = 0; d <= 5; d++) {
            all.add((long) x.line(d));
            for (int f = 0; f <= 5; f++) all.add(x.fall(d, f));
        }
        all.add((long) x.next());
        all.add((long) x.first());
    }

    private static void ground(HowDeep x, List<Long> all) {
        for (int i = 0; i < 5; i++) for (int j = 0; j < 5; j++) all.add((long) x.follow(i, j, 0));
        for (int p = 0; p < 4; p++) for (int q = 0; q < p; q++) all.add((long) x.ties(p, q, 0));
        for (int t = 0; t < 6; t++) {
            all.add((long) x.force(t));
            for (int yard = 1; yard <= 5; yard += 2) {
                for (int part = 0; part < 3; part++) all.add((long) x.asks(part, yard, 0, 1));
            }
        }
        for (int p = 0; p < 4; p++) all.add((long) x.fill(p));
        for (int p = 0; p < 4; p++) all.add((long) x.dig(p, 0));
    }

    /** What lies on THE TAPE is half a TEXT. */
    private static void tape(HowDeep x, List<Long> all) {
        Due.tape(x, "er 66;fall 55;");
        all.add((long) x.text());
        all.add((long) x.force(x.count(9) - 1));
        all.add((long) x.asks(0, 1, 0, 0));
        all.add((long) x.asks(1, 1, 0, 0));
        all.add((long) x.asks(2, 1, 0, 0));
        all.add((long) x.layer(5, 5, 1));
        all.add((long) x.rule(1, 1, 1));
        all.add((long) x.farm(1, 1));
        all.add((long) x.image());
    }

    /** There may be room for one PLACE alone: by which SHEET first. */
    private static void sheets(HowDeep x, int by, List<Long> all) {
        for (int s = 0; s < 4; s++) {
            all.add((long) x.judge(0, s));
            all.add(x.row(0, s));
            all.add((long) x.join(s, 1));
            for (int t = 0; t < 4; t++) all.add((long) x.copy(s, 0, t, 0, 0));
        }
        // four numbers at a time of SHEET 0, where there are no PLACES yet; else one more PLACE by each
        for (int s = by; s < 4; s++) {
            int number = x.count(6) > 0 ? x.place(s) : -1;
            all.add((long) number);
            for (int what = 7; what <= 11; what++) all.add((long) x.told(number, what));
        }
        for (int i = 0; i < 16 && x.count(6) < 4; i += 4) {
            x.sheet(3, 2, 4);
            all.add((long) x.copy(0, i + (i == 12 ? 4 : 0), 3, 0, 4));
            int number = x.place(3);
            all.add((long) number);
            for (int what = 7; what <= 11; what++) all.add((long) x.told(number, what));
        }
        for (int s = 0; s < 4; s++) for (int i = 0; i <= 20; i++) all.add((long) x.cell(s, i, 0));
    }

    private static void image(HowDeep x, List<Long> all) {
        all.add((long) x.undo());
        for (int what = 0; what <= 11; what++) all.add((long) x.count(what));
        for (int p = 0; p < 4; p++) for (int what = 0; what <= 6; what++) all.add((long) x.told(p, what));
        for (int i = 0; i < 5; i++) for (int j = 0; j < 5; j++) all.add((long) x.follow(i, j, 0));
        for (int p = 0; p < 4; p++) for (int q = 0; q < p; q++) all.add((long) x.ties(p, q, 0));
    }

    /** Were the views blind, nothing would be told by them. */
    private static boolean tellApart() {
        Call[] changes = {x -> x.set(3, 77), x -> x.set(4, 77), x -> x.follow(2, 2, 0), x -> x.ties(0, 1, 3), x -> x.fill(0),
            x -> x.dig(0, 2), x -> x.feed(' ', 1), x -> x.force(0), x -> x.cell(0, 1, 0), x -> x.sheet(2, 2, 2), x -> x.image(),
            x -> x.undo(), x -> x.farm(1, 1), x -> x.rule(0, 0, 0), x -> x.text(), x -> x.cell(1, 0, 9), x -> x.copy(0, 0, 0, 1, 1),
            x -> Due.place(x, 1, 1, 1), x -> x.cell(2, 0, 2)};
        boolean all = true;
        for (Call c : changes) all &= differs(c);
        return all;
    }

    private static boolean differs(Call call) {
        for (int view = 0; view < VIEWS; view++) {
            HowDeep x = some();
            call.on(x);
            if (!Arrays.equals(seen(view, x), seen(view, some()))) return true;
        }
        return false;
    }

    // ---- that nothing is changed

    private static void leaves(String which, String name, Call call) {
        for (int view = 0; view < VIEWS; view++) {
            HowDeep x = made(which);
            call.on(x);
            int of = view;
            long[] like = SEEN.computeIfAbsent(which + view, k -> seen(of, made(which)));
            long[] own = seen(view, x);
            int first = Arrays.mismatch(own, like);
            Due.is(which + ": view " + view + " behind " + name, first, -1);
        }
    }

    private static void refuses(String which, String name, long code, Call call) {
        Due.is(which + ": " + name, call.on(made(which)), code);
        leaves(which, name, call);
    }

    private static void refusedByNone() {
        for (int v : new int[] {-1, 4, Integer.MIN_VALUE, Integer.MAX_VALUE}) {
            refuses(SOME, "follow by i " + v, HowDeep.NONE, x -> x.follow(v, 0, 5));
            refuses(SOME, "follow by j " + v, HowDeep.NONE, x -> x.follow(0, v, 5));
            refuses(SOME, "ties by p " + v, HowDeep.NONE, x -> x.ties(v, 0, 5));
            refuses(SOME, "ties by q " + v, HowDeep.NONE, x -> x.ties(0, v, 5));
            refuses(SOME, "dig by p " + v, HowDeep.NONE, x -> x.dig(v, 0));
            refuses(SOME, "fill by p " + v, HowDeep.NONE, x -> x.fill(v));
        }
        for (int v : new int[] {-1, 5}) refuses(SOME, "set what " + v, HowDeep.NONE, x -> x.set(v, 1));
        for (int p = 0; p < 3; p++) {
            int q = p;
            refuses(SOME, "ties alike " + p, HowDeep.NONE, x -> x.ties(q, q, 5));
        }
    }

    private static void refusedByBad() {
        int[] least = {1, 0, 0, 0, 0};
        int[] most = {5, 9999, 9, 9999, 9999};
        for (int what = 0; what < 5; what++) {
            int w = what;
            refuses(SOME, "set " + what + " too little", HowDeep.BAD, x -> x.set(w, least[w] - 1));
            refuses(SOME, "set " + what + " too much", HowDeep.BAD, x -> x.set(w, most[w] + 1));
        }
        for (int[] b : new int[][] {{-1, 0, 0}, {101, 0, 0}, {0, -1, 0}, {0, 10, 0}, {0, 0, -1}, {0, 0, 3}}) {
            refuses(EMPTY, "layer " + Arrays.toString(b), HowDeep.BAD, x -> x.layer(b[0], b[1], b[2]));
        }
        for (int[] b : new int[][] {{-1, 0, 0}, {6, 0, 0}, {0, -1, 0}, {0, 6, 0}, {0, 0, -1}, {0, 0, 8}}) {
            refuses(SOME, "rule " + Arrays.toString(b), HowDeep.BAD, x -> x.rule(b[0], b[1], b[2]));
        }
        for (int[] b : new int[][] {{-1, 1}, {100, 1}, {1, 0}, {1, 100}}) {
            refuses(SOME, "farm " + Arrays.toString(b), HowDeep.BAD, x -> x.farm(b[0], b[1]));
        }
        for (int v : new int[] {-1, 10}) refuses(SOME, "follow " + v, HowDeep.BAD, x -> x.follow(0, 1, v));
        for (int v : new int[] {-1, 101}) refuses(SOME, "ties " + v, HowDeep.BAD, x -> x.ties(0, 1, v));
        for (int v : new int[] {-1, 4}) refuses(SOME, "dig " + v, HowDeep.BAD, x -> x.dig(0, v));
        for (int v : new int[] {-1, 0, 9}) refuses(SOME, "feed " + v, HowDeep.BAD, x -> x.feed('c', v));
        for (int v : new int[] {-1, 3}) refuses(SOME, "force " + v, HowDeep.BAD, x -> x.force(v));
        for (int s : new int[] {-1, 2, 4}) refuses(SOME, "place by " + s, HowDeep.BAD, x -> x.place(s));
        refuses(EMPTY, "place by a SHEET of 20", HowDeep.BAD, x -> x.place(0));
        refuses(SOME, "place by a missing SHEET", -11, x -> x.place(3));
    }

    private static void refusedByHost() {
        for (int s : new int[] {-1, 4}) {
            refuses(SOME, "sheet " + s, HowDeep.BAD, x -> x.sheet(s, 2, 3));
            refuses(SOME, "cell of " + s, HowDeep.BAD, x -> x.cell(s, 0, 9));
            refuses(SOME, "copy from " + s, HowDeep.BAD, x -> x.copy(s, 0, 0, 0, 1));
            refuses(SOME, "copy to " + s, HowDeep.BAD, x -> x.copy(0, 0, s, 0, 1));
            refuses(EMPTY, "layersBy " + s, HowDeep.BAD, x -> x.layersBy(s, 2, 0, 1));
        }
        refuses(SOME, "sheet of 41", HowDeep.BAD, x -> x.sheet(0, 0, 41));
        refuses(SOME, "sheet of -1", -14, x -> x.sheet(0, 0, -1));
        refuses(SOME, "sheet of sort 3", HowDeep.BAD, x -> x.sheet(0, 3, 1));
        refuses(SOME, "sheet of sort -2", HowDeep.BAD, x -> x.sheet(0, -2, 1));
        refuses(SOME, "cell of a missing one", -11, x -> x.cell(3, 0, 9));
        for (int i : new int[] {-1, 3}) refuses(SOME, "cell " + i, -12, x -> x.cell(0, i, 9));
        refuses(SOME, "copy from a missing one", -11, x -> x.copy(3, 0, 0, 0, 1));
        refuses(SOME, "copy to a missing one", -11, x -> x.copy(0, 0, 3, 0, 1));
        refuses(SOME, "copy to another sort", -13, x -> x.copy(0, 0, 1, 0, 1));
        int[][] outside = {{0, 1, 3}, {1, 0, 3}, {-1, 0, 2}, {0, -1, 2}, {3, 0, 1}, {0, 3, 1}, {1, 0, -1}};
        for (int[] o : outside) refuses(SOME, "copy " + Arrays.toString(o), -12, x -> x.copy(0, o[0], 0, o[1], o[2]));
        for (int v : new int[] {-1, 3}) refuses(EMPTY, "layersBy of sort " + v, HowDeep.BAD, x -> x.layersBy(0, v, 0, 1));
        for (int v : new int[] {-1, 6}) refuses(EMPTY, "layersBy n " + v, HowDeep.BAD, x -> x.layersBy(0, 2, 0, v));
        refuses(EMPTY, "layersBy a missing one", -11, x -> x.layersBy(3, 2, 0, 1));
        refuses(EMPTY, "layersBy another sort", -13, x -> x.layersBy(1, 2, 0, 1));
        for (int at : new int[] {-1, 18, 20}) refuses(EMPTY, "layersBy from " + at, -12, x -> x.layersBy(0, 2, at, 1));
        refuses(EMPTY, "layersBy of 0", 0, x -> x.layersBy(0, 2, 0, 0));
    }

    private static void refusedByState() {
        refuses(SOME, "layer behind PLACES", HowDeep.STATE, x -> x.layer(1, 1, 1));
        refuses(SOME, "layersBy behind PLACES", 0, x -> x.layersBy(0, 2, 0, 1));
        refuses(EMPTY, "undo without an IMAGE", HowDeep.STATE, HowDeep::undo);
        for (int shows = 0; shows <= 3; shows++) {
            int of = shows;
            refuses(SOME, "dig behind water " + shows, HowDeep.STATE, x -> x.dig(1, of));
            refuses(FULL, "dig below DEEPEST " + shows, HowDeep.STATE, x -> x.dig(3, of));
        }
    }

    private static void refusedByFull() {
        refuses(FULL, "layer", HowDeep.FULL, x -> x.layer(1, 1, 1));
        refuses(FULL, "place", HowDeep.FULL, x -> x.place(0));
        refuses(FULL, "rule", HowDeep.FULL, x -> x.rule(1, 1, 1));
        refuses(FULL, "farm", HowDeep.FULL, x -> x.farm(1, 1));
        refuses(FULL, "text", HowDeep.FULL, HowDeep::text);
        for (int n = 1; n <= 8; n++) {
            int of = n;
            refuses(FULL, "feed " + n, HowDeep.FULL, x -> x.feed('c', of));
        }
        refuses(FULL, "layersBy", 0, x -> x.layersBy(0, 2, 0, 1));
    }

    // ---- what is asked changes nothing

    private static void asked() {
        leaves(SOME, "count", x -> x.count(5));
        leaves(SOME, "count of nothing", x -> x.count(12));
        for (int part = 0; part <= 3; part++) {
            int of = part;
            leaves(SOME, "asks " + part, x -> x.asks(of, 2, 1, 1));
            leaves(SOME, "asks of no YARD " + part, x -> x.asks(of, 6, 9, 2));
        }
        for (int what : new int[] {0, 1, 2, 11, 12}) leaves(SOME, "told " + what, x -> x.told(0, what));
        for (int what = 0; what <= 3; what++) {
            int of = what;
            leaves(SOME, "ruleTold " + what, x -> x.ruleTold(1, of));
        }
        for (int depth = 0; depth <= 6; depth++) {
            int of = depth;
            leaves(SOME, "fall " + depth, x -> x.fall(of, 2));
            leaves(SOME, "line " + depth, x -> x.line(of));
            leaves(SOME, "join " + depth, x -> x.join(1, of));
        }
        for (int set = 0; set <= 8; set++) {
            int of = set;
            leaves(SOME, "share " + set, x -> x.share(of, of % 3));
        }
        for (int kind = -1; kind <= 7; kind++) {
            int of = kind;
            for (int i : new int[] {-1, 0, 4, 5, 6, 12, 13}) leaves(SOME, "taken " + i + " for " + kind, x -> x.taken(i, of));
        }
    }

    private static void askedOfYards() {
        leaves(SOME, "next", HowDeep::next);
        leaves(SOME, "first", HowDeep::first);
        for (int p = -1; p <= 3; p++) {
            int q = p;
            leaves(SOME, "think " + p, x -> x.think(q, 1));
            leaves(SOME, "likely " + p, x -> x.likely(q));
            leaves(SOME, "best " + p, x -> x.best(q));
            leaves(SOME, "back " + p, x -> x.back(q));
            leaves(SOME, "index " + p, x -> x.index(q));
            leaves(SOME, "right " + p, x -> x.right(q));
            leaves(SOME, "believe " + p, x -> x.believe(q));
            leaves(SOME, "learn " + p, x -> x.learn(q));
            for (int v = 0; v <= 4; v++) {
                int of = v;
                leaves(SOME, "judge " + p + " " + v, x -> x.judge(q, of));
                leaves(SOME, "row " + p + " " + v, x -> x.row(q, of));
                leaves(SOME, "bore " + p + " " + v, x -> x.bore(q, of));
                leaves(SOME, "far " + p + " " + v, x -> x.far(q, of));
                leaves(SOME, "diviner " + p + " " + v, x -> x.diviner(q, 25 * of));
                leaves(SOME, "mean " + p + " " + v, x -> x.mean(of % 2, q, of));
                leaves(SOME, "drawn " + p + " " + v, x -> x.drawn(of % 2, q, 7 * of, of));
                leaves(SOME, "goesBy " + p + " " + v, x -> x.goesBy(of, q));
            }
        }
    }
}
