import java.util.ArrayList;
import java.util.Arrays;
import java.util.HashMap;
import java.util.List;
import java.util.Map;

/** The document told a second time, as plainly and slowly as can be, for FuzzTest to hold HowDeep against. */
final class Model {
    static final int NONE = -1, BAD = -2, STATE = -3, FULL = -4;
    static final long NO = -4611686018427387904L;
    static final long M = 1000000L;

    static final class Refusal extends RuntimeException {
        final long code;

        Refusal(long code) {
            super(null, null, false, false);
            this.code = code;
        }
    }

    record Layer(int base, int salt, int sign) { }

    record Rule(int kind, int more, int stops) { }

    record Farm(int x, int n) { }

    interface Node {
        int of(Map<String, Integer> names);
    }

    static final class Place {
        int[] first;
        List<Integer> dug = new ArrayList<>();
        boolean water;
    }

    static final class Sheet {
        int sort;
        int[] v;
    }

    static final class Kept {
        int[] set;
        Map<String, Integer> follows = new HashMap<>();
        Map<String, Integer> ties = new HashMap<>();
        List<List<Integer>> dug = new ArrayList<>();
        List<Boolean> water = new ArrayList<>();
        int law;
        int layers;
        int places;
    }

    int[] set = {4, 200, 0, 300, 20};
    List<Layer> layers = new ArrayList<>();
    Map<String, Integer> follows = new HashMap<>();
    List<Place> places = new ArrayList<>();
    Map<String, Integer> ties = new HashMap<>();
    List<Rule> rules = new ArrayList<>();
    List<Farm> farms = new ArrayList<>();
    List<Node[]> texts = new ArrayList<>();
    StringBuilder tape = new StringBuilder();
    int law = 0;
    Sheet[] sheets = new Sheet[4];
    Kept kept;

    Model() {
        tape.append("cost 10 + yard * yard * 2 ; water base - season * 5 ; fall 2 * yard ;");
        text();
    }

    static boolean in(long v, long a, long b) {
        return a <= v && v <= b;
    }

    static void need(boolean is, long code) {
        if (!is) throw new Refusal(code);
    }

    int fol(int i, int j) {
        return follows.getOrDefault(i + "," + j, 0);
    }

    int tie(int p, int q) {
        return ties.getOrDefault(Math.min(p, q) + "," + Math.max(p, q), 0);
    }

    // ---- the ground

    int layer(int wet, int salty, int shows) {
        need(in(wet, 0, 100) && in(salty, 0, 9) && in(shows, 0, 2), BAD);
        need(layers.size() < 5, FULL);
        need(places.isEmpty(), STATE);
        layers.add(new Layer(wet, salty, shows));
        return layers.size() - 1;
    }

    int follow(int i, int j, int v) {
        need(in(i, 0, layers.size() - 1) && in(j, 0, layers.size() - 1), NONE);
        need(in(v, 0, 9), BAD);
        int was = fol(i, j);
        follows.put(i + "," + j, v);
        return was;
    }

    int set(int what, int v) {
        need(in(what, 0, 4), NONE);
        boolean ok = switch (what) {
            case 0 -> in(v, 1, 5);
            case 2 -> in(v, 0, 9);
            default -> in(v, 0, 9999);
        };
        need(ok, BAD);
        int was = set[what];
        set[what] = v;
        return was;
    }

    int count(int what) {
        need(in(what, 0, 11), BAD);
        if (what < 5) return set[what];
        return new int[] {layers.size(), places.size(), rules.size(), farms.size(), texts.size(), law,
            tape.length()}[what - 5];
    }

    // ---- the law

    int feed(long w, int n) {
        need(in(n, 1, 8), BAD);
        need(tape.length() + n <= 160, FULL);
        for (int k = n; k > 0; k--) tape.append((char) (w >>> 8 * (k - 1) & 0xff));
        return tape.length();
    }

    static final List<String> NAMES = List.of("yard", "layer", "base", "salt", "season", "lined");
    static final List<String> KEYS = List.of("cost", "water", "fall", "or", "and", "not");

    record Token(String s, int at) { }

    List<Token> tokens;
    int next;

    int text() {
        need(texts.size() < 6, FULL);
        String t = tape.toString();
        tape.setLength(0);
        tokens = new ArrayList<>();
        for (int i = 0; i < t.length();) {
            char c = t.charAt(i);
            if (c == 32 || c == 10) {
                i++;
                continue;
            }
            int e = i + 1;
            if (c >= 'a' && c <= 'z') while (e < t.length() && t.charAt(e) >= 'a' && t.charAt(e) <= 'z') e++;
            if (c >= '0' && c <= '9') while (e < t.length() && t.charAt(e) >= '0' && t.charAt(e) <= '9') e++;
            tokens.add(new Token(t.substring(i, e), i));
            i = e;
        }
        tokens.add(new Token("", t.length()));
        next = 0;
        Node[] parts = new Node[3];
        String[] heads = {"cost", "water", "fall"};
        for (int k = 0; k < 3; k++) {
            expect(heads[k]);
            parts[k] = either(0);
            expect(";");
        }
        if (next != tokens.size() - 1) fault();
        texts.add(parts);
        return texts.size() - 1;
    }

    void fault() {
        throw new Refusal(-100 - tokens.get(next).at);
    }

    boolean at(String s) {
        return tokens.get(next).s.equals(s);
    }

    boolean take(String s) {
        if (!at(s)) return false;
        next++;
        return true;
    }

    void expect(String s) {
        if (!take(s)) fault();
    }

    Node either(int open) {
        Node a = both(open);
        while (take("or")) {
            Node l = a, r = both(open);
            a = n -> l.of(n) != 0 | r.of(n) != 0 ? 1 : 0;
        }
        return a;
    }

    Node both(int open) {
        Node a = not(open);
        while (take("and")) {
            Node l = a, r = not(open);
            a = n -> l.of(n) != 0 & r.of(n) != 0 ? 1 : 0;
        }
        return a;
    }

    Node not(int open) {
        if (at("not")) {
            if (open == 5) fault();
            next++;
            Node a = not(open + 1);
            return n -> a.of(n) == 0 ? 1 : 0;
        }
        Node l = sum(open);
        if (take("<")) {
            Node r = sum(open);
            return n -> l.of(n) < r.of(n) ? 1 : 0;
        }
        if (take("=")) {
            Node r = sum(open);
            return n -> l.of(n) == r.of(n) ? 1 : 0;
        }
        return l;
    }

    Node sum(int open) {
        Node a = term(open);
        while (at("+") || at("-")) {
            int sign = at("+") ? 1 : -1;
            next++;
            Node l = a, r = term(open);
            a = n -> l.of(n) + sign * r.of(n);
        }
        return a;
    }

    Node term(int open) {
        Node a = one(open);
        while (take("*")) {
            Node l = a, r = one(open);
            a = n -> l.of(n) * r.of(n);
        }
        return a;
    }

    Node one(int open) {
        String s = tokens.get(next).s;
        if (s.matches("[0-9]{1,4}")) {
            next++;
            int v = Integer.parseInt(s);
            return n -> v;
        }
        if (NAMES.contains(s)) {
            next++;
            return n -> n.getOrDefault(s, 0);
        }
        if (open == 5) fault();
        if (take("-")) {
            Node a = one(open + 1);
            return n -> -a.of(n);
        }
        expect("(");
        Node a = either(open + 1);
        expect(")");
        return a;
    }

    int force(int t) {
        need(in(t, 0, texts.size() - 1), BAD);
        int was = law;
        law = t;
        return was;
    }

    long cost(int y) {
        return Math.min(999, Math.max(0, texts.get(law)[0].of(Map.of("yard", y, "season", set[2]))));
    }

    long water(int y, int j) {
        Layer l = layers.get(j);
        return Math.min(100, Math.max(0, texts.get(law)[1].of(
            Map.of("yard", y, "season", set[2], "layer", j, "base", l.base, "salt", l.salt))));
    }

    long falls(int y, int lined) {
        return Math.min(100, Math.max(0, texts.get(law)[2].of(Map.of("yard", y, "season", set[2], "lined", lined))));
    }

    int asks(int part, int yard, int j, int lined) {
        need(in(part, 0, 2) && in(yard, 1, 5) && in(lined, 0, 1), BAD);
        if (part == 0) return (int) cost(yard);
        if (part == 2) return (int) falls(yard, lined);
        need(in(j, 0, layers.size() - 1), -5);
        return (int) water(yard, j);
    }

    // ---- places

    Sheet sheetOf(int s) {
        need(in(s, 0, 3), BAD);
        need(sheets[s] != null, -11);
        return sheets[s];
    }

    int place(int s) {
        Sheet h = sheetOf(s);
        need(h.v.length == layers.size() && !layers.isEmpty(), BAD);
        for (int v : h.v) need(in(v, 0, 99), BAD);
        need(places.size() < 4, FULL);
        Place p = new Place();
        p.first = h.v.clone();
        places.add(p);
        return places.size() - 1;
    }

    boolean isPlace(int p) {
        return in(p, 0, places.size() - 1);
    }

    int ties(int p, int q, int v) {
        need(isPlace(p) && isPlace(q) && p != q, NONE);
        need(in(v, 0, 100), BAD);
        int was = tie(p, q);
        ties.put(Math.min(p, q) + "," + Math.max(p, q), v);
        return was;
    }

    int dig(int p, int shows) {
        need(isPlace(p), NONE);
        need(in(shows, 0, 3), BAD);
        Place w = places.get(p);
        need(!w.water && w.dug.size() < set[0], STATE);
        if (shows == 3) w.water = true;
        else w.dug.add(shows);
        return w.dug.size();
    }

    int fill(int p) {
        need(isPlace(p), NONE);
        Place w = places.get(p);
        int was = w.dug.size();
        w.dug.clear();
        w.water = false;
        return was;
    }

    int told(int p, int what) {
        need(isPlace(p), -5);
        need(in(what, 0, 11), -7);
        Place w = places.get(p);
        if (what == 0) return w.dug.size();
        if (what == 1) return w.water ? 1 : 0;
        if (what <= 6) return what - 2 < w.dug.size() ? w.dug.get(what - 2) : -1;
        return what - 7 < w.first.length ? w.first[what - 7] : 0;
    }

    long[] start(int p) {
        int n = layers.size();
        long[] t = new long[n];
        long all = Arrays.stream(places.get(p).first).sum();
        for (int j = 0; j < n; j++) t[j] = all == 0 ? M / n : places.get(p).first[j] * M / all;
        return t;
    }

    long[] dryParts(long[] t, int y, int sign) {
        long[] d = new long[t.length];
        for (int j = 0; j < t.length; j++) if (layers.get(j).sign == sign) d[j] = t[j] - t[j] * water(y, j) / 100;
        return d;
    }

    long much(long[] t, int y, int sign) {
        return Arrays.stream(dryParts(t, y, sign)).sum();
    }

    long[] whole(long[] t, int y, int sign) {
        long[] d = dryParts(t, y, sign);
        long h = Arrays.stream(d).sum();
        for (int j = 0; j < d.length; j++) d[j] = d[j] * M / h;
        return d;
    }

    long[] below(long[] t, int y, int sign) {
        long[] d = whole(t, y, sign);
        long[] b = new long[d.length];
        for (int j = 0; j < b.length; j++) {
            for (int i = 0; i < d.length; i++) {
                long all = 0;
                for (int k = 0; k < d.length; k++) all += fol(i, k);
                if (all == 0) b[j] += i == j ? d[i] : 0;
                else b[j] += d[i] * fol(i, j) / all;
            }
        }
        return b;
    }

    long[] now(int p) {
        long[] t = start(p);
        int y = 1;
        for (int s : places.get(p).dug) {
            need(much(t, y, s) > 0, STATE);
            t = below(t, y, s);
            y++;
        }
        return t;
    }

    long wet(long[] t, int y) {
        long w = 0;
        for (int j = 0; j < t.length; j++) w += t[j] * water(y, j) / 100;
        return w;
    }

    long think(int p, int j) {
        need(isPlace(p) && in(j, 0, layers.size() - 1), NO);
        return now(p)[j];
    }

    long likely(int p) {
        need(isPlace(p), NO);
        long[] t = now(p);
        int y = places.get(p).dug.size() + 1;
        return y > set[0] ? 0 : wet(t, y);
    }

    int judge(int p, int s) {
        need(isPlace(p), -5);
        Sheet h = sheetOf(s);
        need(h.v.length <= set[0], BAD);
        long[] t = start(p);
        for (int i = 0; i < h.v.length; i++) {
            if (!in(h.v[i], 0, 2) || much(t, i + 1, h.v[i]) == 0) return i;
            t = below(t, i + 1, h.v[i]);
        }
        return -1;
    }

    long row(int p, int s) {
        need(isPlace(p) && in(s, 0, 3) && sheets[s] != null && sheets[s].v.length <= set[0], NO);
        long[] t = start(p);
        long c = M;
        for (int i = 0; i < sheets[s].v.length; i++) {
            int sign = sheets[s].v[i];
            if (!in(sign, 0, 2)) return 0;
            long h = much(t, i + 1, sign);
            c = c * h / M;
            if (h == 0) return 0;
            t = below(t, i + 1, sign);
        }
        return c;
    }

    // ---- going on, stopping

    long going(long[] t, int y, long worth) {
        if (y > set[0]) return 0;
        long g = -M * cost(y);
        for (int j = 0; j < t.length; j++) g += t[j] * water(y, j) / 100 * Math.max(0, worth - layers.get(j).salt);
        if (y == set[0]) return g;
        for (int s = 0; s < 3; s++) {
            long h = much(t, y, s);
            if (h > 0) g += h * Math.max(0, going(below(t, y, s), y + 1, worth)) / M;
        }
        return g;
    }

    long value(long[] t, int y) {
        return Math.max(0, going(t, y, set[1]));
    }

    int yardOf(int p) {
        return places.get(p).dug.size() + 1;
    }

    long[] open(int p) {
        need(!places.get(p).water, STATE);
        return now(p);
    }

    long best(int p) {
        need(isPlace(p), NO);
        return value(open(p), yardOf(p));
    }

    int back(int p) {
        need(isPlace(p), NONE);
        return going(open(p), yardOf(p), set[1]) > 0 ? 1 : 0;
    }

    /** A step at a time up to 300, then (for time's sake) in wide steps, and back one by one. */
    int index(int p) {
        need(isPlace(p), -5);
        long[] t = open(p);
        int y = yardOf(p);
        for (int w = 0; w <= 9999; w += w < 300 ? 1 : 97) {
            if (going(t, y, w) > 0) {
                while (w > 0 && going(t, y, w - 1) > 0) w--;
                return w;
            }
        }
        for (int w = 9900; w <= 9999; w++) if (going(t, y, w) > 0) return w;
        return -1;
    }

    int next() {
        int best = -1, least = 0;
        for (int p = 0; p < places.size(); p++) {
            int i;
            try {
                i = index(p);
            } catch (Refusal r) {
                continue;
            }
            if (i >= 0 && i <= set[1] && (best < 0 || i < least)) {
                best = p;
                least = i;
            }
        }
        return best;
    }

    int rule(int kind, int more, int stops) {
        need(in(kind, 0, 5) && in(more, 0, 5) && in(stops, 0, 7), BAD);
        need(rules.size() < 8, FULL);
        rules.add(new Rule(kind, more, stops));
        return rules.size() - 1;
    }

    boolean isRule(int r) {
        return in(r, 0, rules.size() - 1);
    }

    int ruleTold(int r, int what) {
        need(isRule(r), -5);
        need(in(what, 0, 2), -7);
        Rule u = rules.get(r);
        return what == 0 ? u.kind : what == 1 ? u.more : u.stops;
    }

    boolean digs(Rule u, int k, int last, long[] t) {
        if (k >= set[0]) return false;
        boolean sign = k < u.more && (k == 0 || (u.stops & 1 << last) == 0);
        return switch (u.kind) {
            case 1 -> k < u.more;
            case 2 -> sign;
            case 3 -> going(t, k + 1, set[1]) > 0;
            case 4 -> k < u.more && wet(t, k + 1) >= 100000L * u.stops;
            case 5 -> sign || k == 1;
            default -> false;
        };
    }

    long[] means(Rule u, int k, int last, long[] t, long there, long costs) {
        if (!digs(u, k, last, t)) return new long[] {there * costs, 0, costs > set[3] ? there : 0, 0};
        long[] m = new long[4];
        long all = costs + cost(k + 1);
        for (int j = 0; j < t.length; j++) {
            long w = t[j] * water(k + 1, j) / 100 * there / M;
            m[0] += w * all;
            m[1] += w;
            m[3] += w * Math.max(0, set[1] - layers.get(j).salt);
        }
        for (int s = 0; s < 3; s++) {
            long h = much(t, k + 1, s);
            if (h == 0) continue;
            long[] d = means(u, k + 1, s, below(t, k + 1, s), there * h / M, all);
            for (int i = 0; i < 4; i++) m[i] += d[i];
        }
        return m;
    }

    long mean(int r, int p, int what) {
        need(isRule(r) && isPlace(p) && in(what, 0, 3), NO);
        return means(rules.get(r), 0, 0, start(p), M, 0)[what];
    }

    int right(int p) {
        need(isPlace(p), -5);
        int best = -1;
        long most = Long.MIN_VALUE;
        for (int r = 0; r < rules.size(); r++) {
            long[] m = means(rules.get(r), 0, 0, start(p), M, 0);
            if (m[3] - m[0] > most) {
                most = m[3] - m[0];
                best = r;
            }
        }
        return best;
    }

    int goesBy(int r, int p) {
        need(isRule(r) && isPlace(p), -5);
        long[] t = open(p);
        List<Integer> dug = places.get(p).dug;
        return digs(rules.get(r), dug.size(), dug.isEmpty() ? 0 : dug.get(dug.size() - 1), t) ? 1 : 0;
    }

    // ---- bores, a diviner, lining

    long toldBehind(int k, int n, int y, long[] t, long spent) {
        if (k == n || y > set[0]) return Math.max(0, value(t, y) - M * spent);
        long all = spent + cost(y), sum = 0;
        for (int j = 0; j < t.length; j++) {
            long good = Math.max(0, set[1] - layers.get(j).salt);
            sum += t[j] * water(y, j) / 100 * Math.max(0, good - all);
        }
        for (int s = 0; s < 3; s++) {
            long h = much(t, y, s);
            if (h > 0) sum += h * toldBehind(k + 1, n, y + 1, below(t, y, s), all) / M;
        }
        return sum;
    }

    long bored(int p, int n) {
        long[] t = open(p);
        return toldBehind(0, n, yardOf(p), t, 0) - value(t, yardOf(p));
    }

    long bore(int p, int n) {
        need(isPlace(p) && in(n, 0, 5), NO);
        return bored(p, n);
    }

    int far(int p, int cost) {
        need(isPlace(p), -5);
        need(in(cost, 0, 999), -7);
        int best = 0;
        for (int n = 1; n <= 5; n++) if (bored(p, n) - n * M * cost > bored(p, best) - best * M * cost) best = n;
        return best;
    }

    long word(int p, int r) {
        long[] t = open(p);
        int y = yardOf(p);
        if (y > set[0]) return 0;
        long w = 0, c = M * cost(y), g = going(t, y, set[1]), q = wet(t, y);
        for (int j = 0; j < t.length; j++) w += t[j] * water(y, j) / 100 * Math.max(0, set[1] - layers.get(j).salt);
        long n = g - w + c;
        int z = 100 - r;
        long yes = w * r / 100 + n * z / 100 - c * (q * r + (M - q) * z) / 100 / M;
        long no = w * z / 100 + n * r / 100 - c * (q * z + (M - q) * r) / 100 / M;
        return Math.max(yes, 0) + Math.max(no, 0) - Math.max(g, 0);
    }

    long diviner(int p, int right) {
        need(isPlace(p) && in(right, 0, 100), NO);
        return word(p, right);
    }

    int believe(int p) {
        need(isPlace(p), -5);
        for (int r = 50; r <= 100; r++) if (word(p, r) > 0) return r;
        return -1;
    }

    long fallen(int d, int f) {
        long stands = M;
        for (int y = 1; y <= d; y++) stands = stands * (100 - falls(y, y > f ? 1 : 0)) / 100;
        return M - stands;
    }

    long fall(int depth, int from) {
        need(in(depth, 0, 5) && in(from, 0, 5), NO);
        return fallen(depth, from);
    }

    int line(int depth) {
        need(in(depth, 0, 5), BAD);
        long all = 0;
        for (int y = 1; y <= depth; y++) all += cost(y);
        int best = -1;
        long least = Long.MAX_VALUE;
        for (int f = 0; f <= depth; f++) {
            long v = fallen(depth, f) * all + M * set[4] * (depth - f);
            if (v < least) {
                least = v;
                best = f;
            }
        }
        return best;
    }

    // ---- farms, villages

    int farm(int x, int n) {
        need(in(x, 0, 99) && in(n, 1, 99), BAD);
        need(farms.size() < 6, FULL);
        farms.add(new Farm(x, n));
        return farms.size() - 1;
    }

    long walked(int set, int x) {
        long w = 0;
        for (int i = 0; i < farms.size(); i++) {
            if ((set & 1 << i) != 0) w += (long) farms.get(i).n * Math.abs(farms.get(i).x - x);
        }
        return w;
    }

    int wellAt(int set) {
        int best = 0;
        for (int x = 1; x <= 99; x++) if (walked(set, x) < walked(set, best)) best = x;
        return best;
    }

    int share(int set, int what) {
        need(set > 0 && set < 1 << farms.size() && in(what, 0, 1), BAD);
        return what == 0 ? wellAt(set) : (int) walked(set, wellAt(set));
    }

    int join(int s, int depth) {
        need(in(s, 0, 3) && in(depth, 1, 5), BAD);
        Sheet h = sheetOf(s);
        need(h.v.length == farms.size(), BAD);
        for (int v : h.v) need(in(v, 0, 999999), BAD);
        if (farms.isEmpty()) return -1;
        long yards = 0;
        for (int y = 1; y <= depth; y++) yards += cost(y);
        int full = (1 << farms.size()) - 1;
        for (int set = 1; set <= full; set++) if (parts(h, set) > walked(set, wellAt(set)) + yards) return set;
        return parts(h, full) < walked(full, wellAt(full)) + yards ? full : -1;
    }

    static long parts(Sheet h, int set) {
        long sum = 0;
        for (int i = 0; i < h.v.length; i++) if ((set & 1 << i) != 0) sum += h.v[i];
        return sum;
    }

    long learnt(int p) {
        long sum = 0;
        long[] mine = start(p);
        for (int q = 0; q < places.size(); q++) {
            if (q == p) continue;
            for (int s = 0; s < 3; s++) {
                long h = much(mine, 1, s);
                if (h == 0) continue;
                long[] seen = whole(mine, 1, s), theirs = start(q), mixed = new long[seen.length];
                for (int j = 0; j < mixed.length; j++) {
                    mixed[j] = (theirs[j] * (100 - tie(p, q)) + seen[j] * tie(p, q)) / 100;
                }
                sum += h * (value(mixed, 1) - value(theirs, 1)) / M;
            }
        }
        return sum;
    }

    long learn(int p) {
        need(isPlace(p), NO);
        return learnt(p);
    }

    int first() {
        int best = -1;
        long most = Long.MIN_VALUE;
        for (int p = 0; p < places.size(); p++) {
            long v = learnt(p) + value(start(p), 1);
            if (v > most) {
                most = v;
                best = p;
            }
        }
        return best;
    }

    long lot;

    long lot() {
        lot = lot * 48271 % 2147483647;
        return lot;
    }

    int drawn(int r, int p, int seed, int what) {
        need(isRule(r) && isPlace(p), -5);
        need(in(seed, 0, 99999) && in(what, 0, 2), -7);
        lot = seed + 1;
        int[] first = places.get(p).first;
        int layer = 0;
        int all = Arrays.stream(first).sum();
        if (all > 0) {
            long l = lot() % all;
            while (l >= first[layer]) l -= first[layer++];
        }
        long costs = 0;
        int at = -1, k = 0, last = 0;
        long[] t = start(p);
        while (digs(rules.get(r), k, last, t)) {
            k++;
            costs += cost(k);
            if (lot() % 100 < water(k, layer)) {
                at = k;
                break;
            }
            last = layers.get(layer).sign;
            if (much(t, k, last) == 0) break;
            t = below(t, k, last);
            int follows = 0;
            for (int j = 0; j < layers.size(); j++) follows += fol(layer, j);
            if (follows > 0) {
                long l = lot() % follows;
                int j = 0;
                while (l >= fol(layer, j)) l -= fol(layer, j++);
                layer = j;
            }
        }
        return what == 0 ? (int) costs : what == 1 ? at : k;
    }

    int image() {
        kept = new Kept();
        kept.set = set.clone();
        kept.follows.putAll(follows);
        kept.ties.putAll(ties);
        for (Place p : places) {
            kept.dug.add(new ArrayList<>(p.dug));
            kept.water.add(p.water);
        }
        kept.law = law;
        kept.layers = layers.size();
        kept.places = places.size();
        return places.size();
    }

    int undo() {
        need(kept != null, STATE);
        set = kept.set.clone();
        law = kept.law;
        for (int i = 0; i < kept.layers; i++) {
            for (int j = 0; j < kept.layers; j++) {
                follows.put(i + "," + j, kept.follows.getOrDefault(i + "," + j, 0));
            }
        }
        for (int p = 0; p < kept.places; p++) {
            places.get(p).dug = new ArrayList<>(kept.dug.get(p));
            places.get(p).water = kept.water.get(p);
            for (int q = p + 1; q < kept.places; q++) {
                ties.put(p + "," + q, kept.ties.getOrDefault(p + "," + q, 0));
            }
        }
        return places.size();
    }

    // ---- the host

    int sheet(int s, int sort, int n) {
        need(in(s, 0, 3) && in(sort, -1, 2), BAD);
        if (sort == -1) {
            sheets[s] = null;
            return 1;
        }
        need(n <= 40, BAD);
        need(n >= 0, -14);
        sheets[s] = new Sheet();
        sheets[s].sort = sort;
        sheets[s].v = new int[n];
        return 1;
    }

    int cell(int s, int i, int v) {
        Sheet h = sheetOf(s);
        need(in(i, 0, h.v.length - 1), -12);
        h.v[i] = h.sort == 0 ? (byte) v : h.sort == 1 ? (short) v : v;
        return 1;
    }

    int copy(int s, int i, int other, int j, int n) {
        need(in(s, 0, 3) && in(other, 0, 3), BAD);
        Sheet a = sheetOf(s), b = sheetOf(other);
        need(a.sort == b.sort, -13);
        need(i >= 0 && j >= 0 && n >= 0 && (long) i + n <= a.v.length && (long) j + n <= b.v.length, -12);
        int[] was = a.v.clone();
        for (int k = 0; k < n; k++) b.v[j + k] = was[i + k];
        return n;
    }

    int layersBy(int s, int sort, int at, int n) {
        need(in(s, 0, 3) && in(sort, 0, 2) && in(n, 0, 5), BAD);
        Sheet h = sheetOf(s);
        need(h.sort == sort, -13);
        int came = 0;
        for (long k = 0, i = at; k < n; k++, i += 3) {
            need(i >= 0 && i + 2 < h.v.length, -12);
            try {
                layer(h.v[(int) i], h.v[(int) i + 1], h.v[(int) i + 2]);
                came++;
            } catch (Refusal r) {
                // left out
            }
        }
        return came;
    }

    int taken(int i, int kind) {
        need(in(kind, 0, 6), BAD);
        need(in(i, 0, 12), -12);
        if (i < 5) {
            need(i < layers.size(), -11);
            need(kind == 6, -13);
            return layers.get(i).base;
        }
        need(i - 5 < rules.size(), -11);
        List<List<Integer>> kindsOf = List.of(List.of(0), List.of(0, 1), List.of(0, 1, 2), List.of(0, 3),
            List.of(0, 1, 4), List.of(0, 1, 2, 5));
        need(kindsOf.get(rules.get(i - 5).kind).contains(kind), -13);
        return i - 5;
    }
}
