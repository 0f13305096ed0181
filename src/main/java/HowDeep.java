/** How deep before one stops: layers, wells, rules and what they are worth; DOC.md numbers the promises. */
public final class HowDeep {
    public static final int NONE = -1, BAD = -2, STATE = -3, FULL = -4;
    public static final long NO = -4611686018427387904L;

    private static final int NO_SUCH = -5, NOT_SO = -7;
    private static final int MISSING = -11, OUTSIDE = -12, UNLIKE = -13, TOO_SMALL = -14;
    private static final int MOST_LAYERS = 5, MOST_YARDS = 5, MOST_PLACES = 4, MOST_RULES = 8;
    private static final int MOST_FARMS = 6, MOST_TEXTS = 6, TAPE_BYTES = 160;
    private static final int MOST_SHEETS = 4, SHEET_SIZE = 40, SORTS = 3;
    private static final int SIGNS = 3, WET_SIGN = 3;
    private static final int DEEPEST = 0, WORTH = 1, SEASON = 2, PURSE = 3, LINING = 4, SETTINGS = 5;
    private static final int MOST_WORTH = 9999;
    private static final long WHOLE = 1000000;

    private final Ground ground;
    private final Laws laws;
    private final Places places;
    private final Sheets sheets;
    private final Rules rules;
    private final Farms farms;
    private final Mind mind;
    private final Ledger ledger;
    private final Digging digging;
    private final Image kept;

    public HowDeep() {
        ground = new Ground();
        laws = new Laws(ground);
        laws.readTape();
        laws.weigh();
        places = new Places();
        sheets = new Sheets();
        mind = new Mind(ground, laws, places);
        rules = new Rules(mind);
        farms = new Farms();
        ledger = new Ledger(mind, rules);
        digging = new Digging(mind, rules);
        kept = new Image(ground, places);
    }

    private static boolean within(int v, int least, int most) {
        return v >= least && v <= most;
    }

    private static boolean isSheet(int s) {
        return within(s, 0, MOST_SHEETS - 1);
    }

    private boolean isLayer(int j) {
        return within(j, 0, ground.layers - 1);
    }

    private boolean isPlace(int p) {
        return within(p, 0, places.size - 1);
    }

    private boolean isRule(int r) {
        return within(r, 0, rules.size - 1);
    }

    // ---- the ground

    public int layer(int wet, int salty, int shows) {
        int number = newLayer(wet, salty, shows);
        if (number >= 0) laws.weigh();
        return number;
    }

    private int newLayer(int wet, int salty, int shows) {
        if (!within(wet, 0, 100) || !within(salty, 0, 9) || !within(shows, 0, SIGNS - 1)) return BAD;
        if (ground.layers >= MOST_LAYERS) return FULL;
        if (places.size > 0) return STATE;
        return ground.lay(wet, salty, shows);
    }

    public int follow(int i, int j, int v) {
        if (!isLayer(i) || !isLayer(j)) return NONE;
        if (!within(v, 0, 9)) return BAD;
        return ground.reweigh(i, j, v);
    }

    public int set(int what, int v) {
        if (!within(what, 0, SETTINGS - 1)) return NONE;
        if (!within(v, Ground.LEAST_SET[what], Ground.MOST_SET[what])) return BAD;
        int was = ground.settings[what];
        ground.settings[what] = v;
        if (what == SEASON) laws.weigh();
        return was;
    }

    public int count(int what) {
        if (within(what, 0, SETTINGS - 1)) return ground.settings[what];
        switch (what) {
            case 5: return ground.layers;
            case 6: return places.size;
            case 7: return rules.size;
            case 8: return farms.size;
            case 9: return laws.size;
            case 10: return laws.inForce;
            case 11: return laws.reader.taped;
            default: return BAD;
        }
    }

    // ---- the law

    public int feed(long w, int n) {
        if (!within(n, 1, 8)) return BAD;
        return laws.reader.record(w, n);
    }

    public int text() {
        return laws.readTape();
    }

    public int force(int t) {
        if (!within(t, 0, laws.size - 1)) return BAD;
        int was = laws.inForce;
        laws.inForce = t;
        laws.weigh();
        return was;
    }

    public int asks(int part, int yard, int j, int lined) {
        if (!within(part, 0, 2) || !within(yard, 1, MOST_YARDS) || !within(lined, 0, 1)) return BAD;
        if (part == 0) return laws.costs[yard];
        if (part == 2) return laws.falls[lined][yard];
        return isLayer(j) ? laws.waters[yard][j] : NO_SUCH;
    }

    // ---- places

    public int place(int s) {
        if (!isSheet(s)) return BAD;
        if (sheets.isMissing(s)) return MISSING;
        if (ground.layers == 0 || sheets.sizes[s] != ground.layers || !sheets.allWithin(s, 0, 99)) return BAD;
        return places.found(sheets.numbers[s], ground.layers);
    }

    public int ties(int p, int q, int v) {
        if (!isPlace(p) || !isPlace(q) || p == q) return NONE;
        if (!within(v, 0, 100)) return BAD;
        int was = places.tied[p][q];
        places.tied[p][q] = v;
        places.tied[q][p] = v;
        return was;
    }

    public int dig(int p, int shows) {
        if (!isPlace(p)) return NONE;
        if (!within(shows, 0, WET_SIGN)) return BAD;
        if (places.water[p] || places.dry[p] >= ground.deepest()) return STATE;
        return places.deepen(p, shows);
    }

    public int fill(int p) {
        if (!isPlace(p)) return NONE;
        int was = places.dry[p];
        places.dry[p] = 0;
        places.water[p] = false;
        return was;
    }

    public int told(int p, int what) {
        if (!isPlace(p)) return NO_SUCH;
        if (what == 0) return places.dry[p];
        if (what == 1) return places.water[p] ? 1 : 0;
        if (within(what, 2, 6)) return places.signOf(p, what - 1);
        if (within(what, 7, 11)) return isLayer(what - 7) ? places.firsts[p][what - 7] : 0;
        return NOT_SO;
    }

    public long think(int p, int j) {
        if (!isPlace(p) || !isLayer(j)) return NO;
        int yard = mind.nextYard(p);
        return yard == 0 ? STATE : mind.thought[yard][j];
    }

    public long likely(int p) {
        if (!isPlace(p)) return NO;
        int yard = mind.nextYard(p);
        if (yard == 0) return STATE;
        return yard > ground.deepest() ? 0 : mind.wet(yard);
    }

    public int judge(int p, int s) {
        if (!isPlace(p)) return NO_SUCH;
        if (!isSheet(s)) return BAD;
        if (sheets.isMissing(s)) return MISSING;
        if (sheets.sizes[s] > ground.deepest()) return BAD;
        return mind.firstWrong(p, sheets.numbers[s], sheets.sizes[s]);
    }

    public long row(int p, int s) {
        if (!isPlace(p) || !isSheet(s) || sheets.isMissing(s)) return NO;
        if (sheets.sizes[s] > ground.deepest()) return NO;
        return mind.chanceOf(p, sheets.numbers[s], sheets.sizes[s]);
    }

    // ---- going on, stopping

    public long best(int p) {
        if (!isPlace(p)) return NO;
        int yard = mind.openYard(p);
        return yard == 0 ? STATE : mind.worthOf(yard);
    }

    public int back(int p) {
        if (!isPlace(p)) return NONE;
        int yard = mind.openYard(p);
        if (yard == 0) return STATE;
        return mind.goingOn(yard, ground.worth()) > 0 ? 1 : 0;
    }

    public int index(int p) {
        if (!isPlace(p)) return NO_SUCH;
        int yard = mind.openYard(p);
        return yard == 0 ? STATE : mind.leastWorth(yard);
    }

    public int next() {
        int chosen = -1;
        int least = ground.worth() + 1;
        for (int p = 0; p < places.size; p++) {
            int yard = mind.openYard(p);
            int needed = yard == 0 ? -1 : mind.leastWorth(yard);
            if (needed >= 0 && needed < least) {
                least = needed;
                chosen = p;
            }
        }
        return chosen;
    }

    public int rule(int kind, int more, int stops) {
        if (!within(kind, 0, Rules.SHARE) || !within(more, 0, 5) || !within(stops, 0, 7)) return BAD;
        return rules.make(kind, more, stops);
    }

    public int ruleTold(int r, int what) {
        if (!isRule(r)) return NO_SUCH;
        switch (what) {
            case 0: return rules.kinds[r];
            case 1: return rules.mores[r];
            case 2: return rules.stops[r];
            default: return NOT_SO;
        }
    }

    public long mean(int r, int p, int what) {
        if (!isRule(r) || !isPlace(p) || !within(what, 0, 3)) return NO;
        ledger.reckon(r, p);
        switch (what) {
            case 0: return ledger.spent;
            case 1: return ledger.water;
            case 2: return ledger.ruin;
            default: return ledger.good;
        }
    }

    public int right(int p) {
        if (!isPlace(p)) return NO_SUCH;
        int chosen = -1;
        long most = 0;
        for (int r = 0; r < rules.size; r++) {
            ledger.reckon(r, p);
            long left = ledger.good - ledger.spent;
            if (chosen < 0 || left > most) {
                most = left;
                chosen = r;
            }
        }
        return chosen;
    }

    public int goesBy(int r, int p) {
        if (!isRule(r) || !isPlace(p)) return NO_SUCH;
        if (mind.openYard(p) == 0) return STATE;
        int dug = places.dry[p];
        return rules.goesOn(r, dug, places.signOf(p, dug)) ? 1 : 0;
    }

    // ---- bores, a diviner, lining

    public long bore(int p, int n) {
        if (!isPlace(p) || !within(n, 0, 5)) return NO;
        int yard = mind.openYard(p);
        return yard == 0 ? STATE : mind.boreWorth(yard, n);
    }

    public int far(int p, int cost) {
        if (!isPlace(p)) return NO_SUCH;
        if (!within(cost, 0, 999)) return NOT_SO;
        int yard = mind.openYard(p);
        return yard == 0 ? STATE : mind.bestBore(yard, cost);
    }

    public long diviner(int p, int right) {
        if (!isPlace(p) || !within(right, 0, 100)) return NO;
        int yard = mind.openYard(p);
        if (yard == 0) return STATE;
        return yard > ground.deepest() ? 0 : mind.wordWorth(yard, right);
    }

    public int believe(int p) {
        if (!isPlace(p)) return NO_SUCH;
        int yard = mind.openYard(p);
        if (yard == 0) return STATE;
        if (yard > ground.deepest()) return -1;
        return mind.leastRight(yard);
    }

    public long fall(int depth, int from) {
        if (!within(depth, 0, MOST_YARDS) || !within(from, 0, MOST_YARDS)) return NO;
        return laws.fallen(depth, from);
    }

    public int line(int depth) {
        return within(depth, 0, MOST_YARDS) ? laws.bestLining(depth) : BAD;
    }

    // ---- farms, villages

    public int farm(int x, int n) {
        if (!within(x, 0, 99) || !within(n, 1, 99)) return BAD;
        return farms.settle(x, n);
    }

    public int share(int set, int what) {
        if (!within(set, 1, farms.all()) || !within(what, 0, 1)) return BAD;
        int at = farms.wellOf(set);
        return what == 0 ? at : farms.walk(set, at);
    }

    public int join(int s, int depth) {
        if (!isSheet(s) || !within(depth, 1, MOST_YARDS)) return BAD;
        if (sheets.isMissing(s)) return MISSING;
        if (sheets.sizes[s] != farms.size || !sheets.allWithin(s, 0, 999999)) return BAD;
        return farms.leaving(sheets.numbers[s], laws.costsOf(depth));
    }

    public long learn(int p) {
        return isPlace(p) ? mind.learning(p) : NO;
    }

    public int first() {
        int chosen = -1;
        long most = 0;
        for (int p = 0; p < places.size; p++) {
            long worth = mind.learning(p);
            mind.begin(p);
            worth += mind.worthOf(1);
            if (chosen < 0 || worth > most) {
                most = worth;
                chosen = p;
            }
        }
        return chosen;
    }

    public int drawn(int r, int p, int seed, int what) {
        if (!isRule(r) || !isPlace(p)) return NO_SUCH;
        if (!within(seed, 0, 99999) || !within(what, 0, 2)) return NOT_SO;
        digging.work(r, p, seed);
        if (what == 0) return digging.costs;
        return what == 1 ? digging.waterAt : digging.dug;
    }

    public int image() {
        kept.keep(laws.inForce);
        return places.size;
    }

    public int undo() {
        if (!kept.isThere) return STATE;
        kept.restore();
        laws.inForce = kept.law;
        laws.weigh();
        return places.size;
    }

    // ---- the host

    public int sheet(int s, int sort, int n) {
        if (!isSheet(s) || !within(sort, -1, SORTS - 1)) return BAD;
        if (sort >= 0 && n > SHEET_SIZE) return BAD;
        if (sort >= 0 && n < 0) return TOO_SMALL;
        sheets.lay(s, sort, sort < 0 ? 0 : n);
        return 1;
    }

    public int cell(int s, int i, int v) {
        if (!isSheet(s)) return BAD;
        if (sheets.isMissing(s)) return MISSING;
        if (!sheets.has(s, i)) return OUTSIDE;
        sheets.write(s, i, v);
        return 1;
    }

    public int copy(int s, int i, int other, int j, int n) {
        if (!isSheet(s) || !isSheet(other)) return BAD;
        if (sheets.isMissing(s) || sheets.isMissing(other)) return MISSING;
        if (sheets.sorts[s] != sheets.sorts[other]) return UNLIKE;
        if (!sheets.holds(s, i, n) || !sheets.holds(other, j, n)) return OUTSIDE;
        System.arraycopy(sheets.numbers[s], i, sheets.numbers[other], j, n);
        return n;
    }

    public int layersBy(int s, int sort, int at, int n) {
        if (!isSheet(s) || !within(sort, 0, SORTS - 1) || !within(n, 0, 5)) return BAD;
        if (sheets.isMissing(s)) return MISSING;
        if (sheets.sorts[s] != sort) return UNLIKE;
        int came = 0;
        for (int turn = 0, i = at; turn < n; turn++, i += 3) {
            if (!sheets.holds(s, i, 3)) return OUTSIDE;
            int[] numbers = sheets.numbers[s];
            if (layer(numbers[i], numbers[i + 1], numbers[i + 2]) >= 0) came++;
        }
        return came;
    }

    public int taken(int i, int kind) {
        if (!within(kind, 0, Rules.SHARE + 1)) return BAD;
        if (!within(i, 0, MOST_LAYERS + MOST_RULES - 1)) return OUTSIDE;
        int r = i - MOST_LAYERS;
        if (r < 0 ? !isLayer(i) : !isRule(r)) return MISSING;
        if (r < 0) return kind > Rules.SHARE ? ground.bases[i] : UNLIKE;
        return kind <= Rules.SHARE && rules.isOne(r, kind) ? r : UNLIKE;
    }

    /** The LAYERS, what FOLLOWS them, and the numbers that set() changes. */
    private static final class Ground {
        private static final int[] LEAST_SET = {1, 0, 0, 0, 0};
        private static final int[] MOST_SET = {MOST_YARDS, MOST_WORTH, 9, 9999, 9999};

        private final int[] bases = new int[MOST_LAYERS];
        private final int[] salts = new int[MOST_LAYERS];
        private final int[] signs = new int[MOST_LAYERS];
        private final int[][] follows = new int[MOST_LAYERS][MOST_LAYERS];
        // of each LAYER all that follows it together
        private final int[] allBelow = new int[MOST_LAYERS];
        private final int[] settings = {4, 200, 0, 300, 20};
        private int layers;

        /** There must be room for one more. */
        int lay(int base, int salt, int sign) {
            int number = layers;
            bases[number] = base;
            salts[number] = salt;
            signs[number] = sign;
            layers = number + 1;
            return number;
        }

        int deepest() {
            return settings[DEEPEST];
        }

        int worth() {
            return settings[WORTH];
        }

        /** What water in a LAYER is worth, if clean water were worth so much. */
        int goodOf(int j, int worth) {
            return Math.max(0, worth - salts[j]);
        }

        /** How much j counts below i becomes v: what it was. */
        int reweigh(int i, int j, int v) {
            int was = follows[i][j];
            follows[i][j] = v;
            allBelow[i] += v - was;
            return was;
        }
    }

    /** The TEXTS, and what THE LAW makes of each YARD. */
    private static final class Laws {
        private static final String FIRST_LAW =
            "cost 10 + yard * yard * 2 ; water base - season * 5 ; fall 2 * yard ;";
        private static final int MOST_COST = 999, MOST_PART = 100;
        private static final int YARD = 0, LAYER = 1, BASE = 2, SALT = 3, SEASON_NAME = 4, LINED = 5, NAME_COUNT = 6;

        private final Ground ground;
        private final Reader reader = new Reader();
        private final int[][] codes = new int[MOST_TEXTS][TAPE_BYTES];
        private final int[][] starts = new int[MOST_TEXTS][3];
        // by YARD; YARD 0 is none
        private final int[] costs = new int[MOST_YARDS + 1];
        private final int[][] waters = new int[MOST_YARDS + 1][MOST_LAYERS];
        // not lined, lined
        private final int[][] falls = new int[2][MOST_YARDS + 1];
        private final int[] named = new int[NAME_COUNT];
        private final int[] stack = new int[TAPE_BYTES];
        private int size;
        private int inForce;

        /** TEXT 0 lies on THE TAPE then. */
        Laws(Ground ground) {
            this.ground = ground;
            for (int i = 0; i < FIRST_LAW.length(); i++) reader.record(FIRST_LAW.charAt(i), 1);
        }

        /** The number of the TEXT that was on THE TAPE; -100 less the place of its FAULT; FULL. */
        int readTape() {
            int number = size;
            if (number >= MOST_TEXTS) return FULL;
            boolean stands = reader.readsText();
            reader.taped = 0;
            if (!stands) return -100 - reader.start;
            System.arraycopy(reader.codes, 0, codes[number], 0, TAPE_BYTES);
            System.arraycopy(reader.starts, 0, starts[number], 0, 3);
            size = number + 1;
            return number;
        }

        /** Reckoned whenever THE LAW, the SEASON or the LAYERS change, so that no question has to. */
        void weigh() {
            for (int i = 0; i < NAME_COUNT; i++) named[i] = 0;
            named[SEASON_NAME] = ground.settings[SEASON];
            for (int yard = 1; yard <= MOST_YARDS; yard++) {
                named[YARD] = yard;
                costs[yard] = part(0, MOST_COST);
                falls[0][yard] = part(2, MOST_PART);
                named[LINED] = 1;
                falls[1][yard] = part(2, MOST_PART);
                named[LINED] = 0;
                weighLayers(waters[yard]);
            }
        }

        private void weighLayers(int[] waters) {
            for (int j = 0; j < ground.layers; j++) {
                named[LAYER] = j;
                named[BASE] = ground.bases[j];
                named[SALT] = ground.salts[j];
                waters[j] = part(1, MOST_PART);
            }
            named[LAYER] = 0;
            named[BASE] = 0;
            named[SALT] = 0;
        }

        private int part(int number, int bound) {
            int v = worked(codes[inForce], starts[inForce][number]);
            return Math.max(0, Math.min(bound, v));
        }

        private int worked(int[] text, int from) {
            int top = 0;
            for (int i = Math.max(0, from); i < text.length && text[i] != Reader.PART_END; i++) {
                int code = text[i];
                if (code < Reader.WORKS) {
                    if (top < stack.length) {
                        stack[top] = code < Reader.NAMES ? code : valueOf(code - Reader.NAMES);
                        top++;
                    }
                } else if (code >= Reader.TURNS) {
                    if (top > 0) stack[top - 1] = turned(code - Reader.TURNS, stack[top - 1]);
                } else if (top > 1) {
                    top--;
                    stack[top - 1] = joined(code - Reader.WORKS, stack[top - 1], stack[top]);
                }
            }
            return top > 0 ? stack[0] : 0;
        }

        private int valueOf(int name) {
            return name >= 0 && name < NAME_COUNT ? named[name] : 0;
        }

        private static int turned(int by, int a) {
            return by == Reader.NOT ? truth(a == 0) : -a;
        }

        private static int joined(int by, int a, int b) {
            switch (by) {
                case Reader.OR: return truth(a != 0 || b != 0);
                case Reader.AND: return truth(a != 0 && b != 0);
                case '<': return truth(a < b);
                case '=': return truth(a == b);
                case '+': return a + b;
                case '-': return a - b;
                default: return a * b;
            }
        }

        private static int truth(boolean is) {
            return is ? 1 : 0;
        }

        int costsOf(int depth) {
            int sum = 0;
            for (int yard = 1; yard <= depth && yard <= MOST_YARDS; yard++) sum += costs[yard];
            return sum;
        }

        long fallen(int depth, int from) {
            long stands = WHOLE;
            for (int yard = 1; yard <= depth && yard <= MOST_YARDS; yard++) {
                int[] fall = falls[yard > from ? 1 : 0];
                stands = stands * (100 - fall[yard]) / 100;
            }
            return WHOLE - stands;
        }

        int bestLining(int depth) {
            int chosen = 0;
            long least = 0;
            for (int from = 0; from <= depth; from++) {
                long loss = fallen(depth, from) * costsOf(depth) + WHOLE * ground.settings[LINING] * (depth - from);
                if (from == 0 || loss < least) {
                    least = loss;
                    chosen = from;
                }
            }
            return chosen;
        }
    }

    /** THE TAPE, and the TEXT on it as codes, each behind what it works on. */
    private static final class Reader {
        // a sign's token is its own byte, all of which lie above these
        private static final int END = 0, WRONG = 1, NUMBER = 2, NAME = 3, KEY = 4, OR = 7, AND = 8, NOT = 9;
        private static final String SIGN_BYTES = "();+-*<=";
        private static final String WORDS =
            "cost  water fall  or    and   not   yard  layer base  salt  seasonlined ";
        private static final int WORD_COUNT = 12, WORD_SIZE = 6, KEY_COUNT = 6;
        private static final int MOST_DIGITS = 4, MOST_OPEN = 5;
        private static final int EITHER = 0, BOTH = 1, SUM = 2, TERM = 3;
        // codes below NAMES are numbers; WORKS and a token join the last two values, TURNS and a token turn the last
        private static final int NAMES = 10000, WORKS = 20000, TURNS = 30000, PART_END = 40000;

        private final int[] tape = new int[TAPE_BYTES];
        private final int[] codes = new int[TAPE_BYTES];
        private final int[] starts = new int[3];
        private int taped;
        private int used;
        private int place;
        private int start;
        private int token;
        private int value;

        /** How many bytes there are behind n more of them; FULL. */
        int record(long w, int n) {
            if (taped + n > TAPE_BYTES) return FULL;
            for (int i = n - 1; i >= 0; i--) {
                tape[taped] = (int) (w >> 8 * i) & 255;
                taped++;
            }
            return taped;
        }

        /** Whether there is a TEXT on THE TAPE; if not, its FAULT is where the last token starts. */
        boolean readsText() {
            place = 0;
            used = 0;
            step();
            for (int part = 0; part < 3; part++) {
                if (token != KEY + part) return false;
                starts[part] = used;
                step();
                if (!reads(EITHER, 0) || token != ';') return false;
                emit(PART_END);
                step();
            }
            return token == END;
        }

        private void step() {
            while (place < taped && (tape[place] == ' ' || tape[place] == '\n')) place++;
            start = place;
            if (place >= taped) {
                token = END;
            } else if (isLetter(tape[place])) {
                readWord();
            } else if (isDigit(tape[place])) {
                readNumber();
            } else {
                token = SIGN_BYTES.indexOf((char) tape[place]) >= 0 ? tape[place] : WRONG;
                place++;
            }
        }

        private static boolean isLetter(int sign) {
            return sign >= 'a' && sign <= 'z';
        }

        private static boolean isDigit(int sign) {
            return sign >= '0' && sign <= '9';
        }

        private void readNumber() {
            value = 0;
            while (place < taped && isDigit(tape[place])) {
                if (place - start < MOST_DIGITS) value = value * 10 + tape[place] - '0';
                place++;
            }
            token = place - start > MOST_DIGITS ? WRONG : NUMBER;
        }

        private void readWord() {
            while (place < taped && isLetter(tape[place])) place++;
            token = WRONG;
            for (int word = 0; word < WORD_COUNT; word++) {
                if (isWord(word)) {
                    token = word < KEY_COUNT ? KEY + word : NAME;
                    value = word - KEY_COUNT;
                }
            }
        }

        private boolean isWord(int word) {
            int length = place - start;
            if (length > WORD_SIZE) return false;
            for (int i = 0; i < WORD_SIZE; i++) {
                int found = i < length ? tape[start + i] : ' ';
                if (found != WORDS.charAt(word * WORD_SIZE + i)) return false;
            }
            return true;
        }

        /** Reads an E, AND, SUM or TERM while so many are open; false at a FAULT, where the last token stands then. */
        private boolean reads(int level, int open) {
            if (!readsPart(level, open)) return false;
            for (int turn = 0; turn < TAPE_BYTES && joins(level); turn++) {
                int by = token;
                step();
                if (!readsPart(level, open)) return false;
                emit(WORKS + by);
            }
            return true;
        }

        private boolean readsPart(int level, int open) {
            switch (level) {
                case EITHER: return reads(BOTH, open);
                case BOTH: return readsNot(open);
                case SUM: return reads(TERM, open);
                default: return readsOne(open);
            }
        }

        private boolean joins(int level) {
            switch (level) {
                case EITHER: return token == OR;
                case BOTH: return token == AND;
                case SUM: return token == '+' || token == '-';
                default: return token == '*';
            }
        }

        private boolean readsNot(int open) {
            if (token == NOT) {
                if (open >= MOST_OPEN) return false;
                step();
                if (!readsNot(open + 1)) return false;
                emit(TURNS + NOT);
                return true;
            }
            if (!reads(SUM, open)) return false;
            if (token != '<' && token != '=') return true;
            int by = token;
            step();
            if (!reads(SUM, open)) return false;
            emit(WORKS + by);
            return true;
        }

        private boolean readsOne(int open) {
            if (token == NUMBER || token == NAME) {
                emit(token == NAME ? NAMES + value : value);
                step();
                return true;
            }
            if (open >= MOST_OPEN || token != '-' && token != '(') return false;
            boolean turned = token == '-';
            step();
            if (turned) {
                if (!readsOne(open + 1)) return false;
                emit(TURNS + '-');
                return true;
            }
            if (!reads(EITHER, open + 1) || token != ')') return false;
            step();
            return true;
        }

        /** Each code has a token of its own on THE TAPE, so there is always room. */
        private void emit(int code) {
            if (used < codes.length) {
                codes[used] = code;
                used++;
            }
        }
    }

    /** The PLACES: their FIRST, what is DUG there, their TIES. */
    private static final class Places {
        private final int[][] firsts = new int[MOST_PLACES][MOST_LAYERS];
        private final int[][] signs = new int[MOST_PLACES][MOST_YARDS];
        private final int[] dry = new int[MOST_PLACES];
        private final boolean[] water = new boolean[MOST_PLACES];
        private final int[][] tied = new int[MOST_PLACES][MOST_PLACES];
        private int size;

        /** The number of a new PLACE; FULL. */
        int found(int[] first, int layers) {
            int number = size;
            if (number >= MOST_PLACES) return FULL;
            for (int j = 0; j < layers && j < first.length; j++) firsts[number][j] = first[j];
            size = number + 1;
            return number;
        }

        /** There must be a YARD left to dig. */
        int deepen(int p, int shows) {
            if (shows == WET_SIGN) {
                water[p] = true;
            } else if (dry[p] < MOST_YARDS) {
                signs[p][dry[p]] = shows;
                dry[p]++;
            }
            return dry[p];
        }

        /** The SIGN of a YARD; -1, if it is not DUG or had water. */
        int signOf(int p, int yard) {
            return yard >= 1 && yard <= dry[p] ? signs[p][yard - 1] : -1;
        }

        int allFirst(int p) {
            int sum = 0;
            for (int j = 0; j < MOST_LAYERS; j++) sum += firsts[p][j];
            return sum;
        }
    }

    /** What is THOUGHT of YARDS, and what going on is worth then. */
    private static final class Mind {
        private final Ground ground;
        private final Laws laws;
        private final Places places;
        // by YARD: a question about a YARD writes to those below it alone
        private final long[][] thought = new long[MOST_YARDS + 2][MOST_LAYERS];
        private final long[] dry = new long[MOST_LAYERS];
        private final long[] mine = new long[MOST_LAYERS];
        private final long[] theirs = new long[MOST_LAYERS];

        Mind(Ground ground, Laws laws, Places places) {
            this.ground = ground;
            this.laws = laws;
            this.places = places;
        }

        /** THOUGHT of YARD 1 of a PLACE. */
        void begin(int p) {
            int all = places.allFirst(p);
            for (int j = 0; j < ground.layers; j++) {
                thought[1][j] = all > 0 ? places.firsts[p][j] * WHOLE / all : WHOLE / ground.layers;
            }
        }

        /** The next YARD of a PLACE, which is THOUGHT of then; 0, if what was shown CAN'T BE. */
        int nextYard(int p) {
            begin(p);
            for (int yard = 1; yard <= places.dry[p]; yard++) {
                if (pass(yard, places.signOf(p, yard)) == 0) return 0;
            }
            return places.dry[p] + 1;
        }

        /** Likewise, but 0 also if there is water. */
        int openYard(int p) {
            return places.water[p] ? 0 : nextYard(p);
        }

        /** HOW MUCH of a YARD is DRY with a SIGN; the YARD below is THOUGHT of then, if that is above 0. */
        long pass(int yard, int sign) {
            if (yard < 1 || yard > MOST_YARDS) return 0;
            long much = dryWith(thought[yard], yard, sign);
            if (much > 0) sink(thought[yard + 1]);
            return much;
        }

        /** HOW MUCH of these PARTS is DRY with a SIGN; MADE WHOLE, if that is above 0. */
        private long dryWith(long[] parts, int yard, int sign) {
            int[] waters = laws.waters[yard];
            long much = 0;
            for (int j = 0; j < ground.layers; j++) {
                dry[j] = ground.signs[j] == sign ? parts[j] - parts[j] * waters[j] / 100 : 0;
                much += dry[j];
            }
            if (much <= 0) return 0;
            for (int j = 0; j < ground.layers; j++) dry[j] = dry[j] * WHOLE / much;
            return much;
        }

        private void sink(long[] below) {
            for (int j = 0; j < ground.layers; j++) below[j] = 0;
            for (int i = 0; i < ground.layers; i++) {
                int all = ground.allBelow[i];
                if (all <= 0) {
                    below[i] += dry[i];
                } else {
                    for (int j = 0; j < ground.layers; j++) below[j] += dry[i] * ground.follows[i][j] / all;
                }
            }
        }

        /** PARTS of a LAYER that have water in a YARD. */
        long wetOf(int yard, int j) {
            return yard < 1 || yard > MOST_YARDS ? 0 : thought[yard][j] * laws.waters[yard][j] / 100;
        }

        long wet(int yard) {
            long sum = 0;
            for (int j = 0; j < ground.layers; j++) sum += wetOf(yard, j);
            return sum;
        }

        /** What water in a YARD is worth, coins that are lost being taken from it: 0 at least ahead of them, too. */
        private long gain(int yard, int worth, int lost) {
            long sum = 0;
            for (int j = 0; j < ground.layers; j++) {
                sum += wetOf(yard, j) * Math.max(0, worth - ground.salts[j] - lost);
            }
            return sum;
        }

        /** GOING ON with a YARD, if water had this WORTH. */
        private long goingOn(int yard, int worth) {
            if (yard < 1 || yard > ground.deepest()) return 0;
            long sum = gain(yard, worth, 0) - WHOLE * laws.costs[yard];
            for (int sign = 0; sign < SIGNS && yard < ground.deepest(); sign++) {
                long much = pass(yard, sign);
                if (much > 0) sum += much * Math.max(0, goingOn(yard + 1, worth)) / WHOLE;
            }
            return sum;
        }

        /** VALUE of a YARD. */
        long worthOf(int yard) {
            return Math.max(0, goingOn(yard, ground.worth()));
        }

        /** INDEX by a YARD: GOING ON never falls where WORTH rises, so that halving finds it. */
        int leastWorth(int yard) {
            if (goingOn(yard, MOST_WORTH) <= 0) return -1;
            int low = 0;
            int high = MOST_WORTH;
            for (int turn = 0; turn < 32 && low < high; turn++) {
                int middle = (low + high) / 2;
                if (goingOn(yard, middle) > 0) {
                    high = middle;
                } else {
                    low = middle + 1;
                }
            }
            return low;
        }

        /** Which of a row of SIGNS is the first that can't be told from YARD 1 on; -1: none. */
        int firstWrong(int p, int[] row, int length) {
            begin(p);
            for (int i = 0; i < length && i < MOST_YARDS; i++) {
                if (!within(row[i], 0, SIGNS - 1) || pass(i + 1, row[i]) == 0) return i;
            }
            return -1;
        }

        long chanceOf(int p, int[] row, int length) {
            begin(p);
            long parts = WHOLE;
            for (int i = 0; i < length && i < MOST_YARDS; i++) {
                long much = within(row[i], 0, SIGNS - 1) ? pass(i + 1, row[i]) : 0;
                if (much == 0) return 0;
                parts = parts * much / WHOLE;
            }
            return parts;
        }

        /** TOLD, so many YARDS of a BORE being left. */
        private long toldBy(int left, int yard, int spent) {
            if (left <= 0 || yard < 1 || yard > ground.deepest()) {
                return Math.max(0, worthOf(yard) - WHOLE * spent);
            }
            int lost = spent + laws.costs[yard];
            long sum = gain(yard, ground.worth(), lost);
            for (int sign = 0; sign < SIGNS; sign++) {
                long much = pass(yard, sign);
                if (much > 0) sum += much * toldBy(left - 1, yard + 1, lost) / WHOLE;
            }
            return sum;
        }

        long boreWorth(int yard, int n) {
            return toldBy(n, yard, 0) - worthOf(yard);
        }

        int bestBore(int yard, int cost) {
            int chosen = 0;
            long most = 0;
            for (int n = 0; n <= 5; n++) {
                long worth = boreWorth(yard, n) - n * WHOLE * cost;
                if (n == 0 || worth > most) {
                    most = worth;
                    chosen = n;
                }
            }
            return chosen;
        }

        /** What the word of a DIVINER is worth, DEEPEST not being reached. */
        long wordWorth(int yard, int right) {
            long going = goingOn(yard, ground.worth());
            long won = gain(yard, ground.worth(), 0);
            return spoken(going, won, WHOLE * laws.costs[yard], wet(yard), right);
        }

        /** The least RIGHT with which that is above 0; -1: none. */
        int leastRight(int yard) {
            long going = goingOn(yard, ground.worth());
            long won = gain(yard, ground.worth(), 0);
            for (int right = 50; right <= 100; right++) {
                if (spoken(going, won, WHOLE * laws.costs[yard], wet(yard), right) > 0) return right;
            }
            return -1;
        }

        private static long spoken(long going, long won, long cost, long wet, int right) {
            long later = going - won + cost;
            long yes = heeded(won, later, cost, wet, right);
            long no = heeded(won, later, cost, wet, 100 - right);
            return Math.max(0, yes) + Math.max(0, no) - Math.max(0, going);
        }

        private static long heeded(long won, long later, long cost, long wet, int right) {
            int wrong = 100 - right;
            long said = wet * right + (WHOLE - wet) * wrong;
            return won * right / 100 + later * wrong / 100 - cost * said / 100 / WHOLE;
        }

        /** LEARNING from PLACE p. */
        long learning(int p) {
            begin(p);
            System.arraycopy(thought[1], 0, mine, 0, MOST_LAYERS);
            long sum = 0;
            for (int q = 0; q < places.size; q++) {
                if (q != p) sum += teaches(p, q);
            }
            return sum;
        }

        /** LEARNING from p for one other PLACE alone; THOUGHT of p's own YARD 1 is in mine. */
        private long teaches(int p, int q) {
            begin(q);
            System.arraycopy(thought[1], 0, theirs, 0, MOST_LAYERS);
            long before = worthOf(1);
            long sum = 0;
            for (int sign = 0; sign < SIGNS; sign++) {
                long much = dryWith(mine, 1, sign);
                if (much > 0) {
                    mix(places.tied[p][q]);
                    sum += much * (worthOf(1) - before) / WHOLE;
                }
            }
            return sum;
        }

        private void mix(int tied) {
            for (int j = 0; j < ground.layers; j++) {
                thought[1][j] = (theirs[j] * (100 - tied) + dry[j] * tied) / 100;
            }
        }
    }

    /** The RULES. */
    private static final class Rules {
        private static final int DEEP = 1, SIGN = 2, BEST = 3, BORE = 4, SHARE = 5;
        // which KIND each one is of, too
        private static final int[] PARENTS = {-1, 0, DEEP, 0, DEEP, SIGN};

        private final Mind mind;
        private final int[] kinds = new int[MOST_RULES];
        private final int[] mores = new int[MOST_RULES];
        private final int[] stops = new int[MOST_RULES];
        private int size;

        Rules(Mind mind) {
            this.mind = mind;
        }

        /** The number of a new RULE; FULL. */
        int make(int kind, int more, int stop) {
            int number = size;
            if (number >= MOST_RULES) return FULL;
            kinds[number] = kind;
            mores[number] = more;
            stops[number] = stop;
            size = number + 1;
            return number;
        }

        boolean isOne(int r, int kind) {
            int of = kinds[r];
            for (int turn = 0; turn < PARENTS.length && of >= 0 && of < PARENTS.length; turn++) {
                if (of == kind) return true;
                of = PARENTS[of];
            }
            return false;
        }

        /** Whether one digs on behind so many YARDS, the next one being THOUGHT of; sign -1: there is no last one. */
        boolean goesOn(int r, int dug, int sign) {
            if (dug >= mind.ground.deepest()) return false;
            boolean deep = dug < mores[r];
            boolean stopped = sign >= 0 && (stops[r] >> sign & 1) == 1;
            switch (kinds[r]) {
                case DEEP: return deep;
                case SIGN: return deep && !stopped;
                case BEST: return mind.goingOn(dug + 1, mind.ground.worth()) > 0;
                case BORE: return deep && mind.wet(dug + 1) >= 100000 * stops[r];
                case SHARE: return dug == 1 || deep && !stopped;
                default: return false;
            }
        }
    }

    /** What a RULE comes to in the mean. */
    private static final class Ledger {
        private final Mind mind;
        private final Rules rules;
        private int rule;
        private long spent;
        private long water;
        private long ruin;
        private long good;

        Ledger(Mind mind, Rules rules) {
            this.mind = mind;
            this.rules = rules;
        }

        void reckon(int r, int p) {
            rule = r;
            spent = 0;
            water = 0;
            ruin = 0;
            good = 0;
            mind.begin(p);
            descend(0, -1, WHOLE, 0);
        }

        private void descend(int dug, int sign, long there, int costs) {
            if (dug >= MOST_YARDS || !rules.goesOn(rule, dug, sign)) {
                spent += there * costs;
                if (costs > mind.ground.settings[PURSE]) ruin += there;
                return;
            }
            int yard = dug + 1;
            int all = costs + mind.laws.costs[yard];
            find(yard, there, all);
            for (int shown = 0; shown < SIGNS; shown++) {
                long much = mind.pass(yard, shown);
                if (much > 0) descend(yard, shown, there * much / WHOLE, all);
            }
        }

        private void find(int yard, long there, int costs) {
            Ground ground = mind.ground;
            for (int j = 0; j < ground.layers; j++) {
                long found = mind.wetOf(yard, j) * there / WHOLE;
                water += found;
                spent += found * costs;
                good += found * ground.goodOf(j, ground.worth());
            }
        }
    }

    /** A digging that is drawn by a SEED. */
    private static final class Digging {
        private static final long STEP = 48271, RING = 2147483647;

        private final Mind mind;
        private final Rules rules;
        private long lot;
        private int costs;
        private int waterAt;
        private int dug;

        Digging(Mind mind, Rules rules) {
            this.mind = mind;
            this.rules = rules;
        }

        void work(int r, int p, int seed) {
            Ground ground = mind.ground;
            lot = seed + 1;
            costs = 0;
            waterAt = -1;
            dug = 0;
            mind.begin(p);
            int at = pick(mind.places.firsts[p], mind.places.allFirst(p), 0);
            int sign = -1;
            for (int yard = 1; yard <= MOST_YARDS && rules.goesOn(r, dug, sign); yard++) {
                costs += mind.laws.costs[yard];
                dug = yard;
                if (lots() % 100 < mind.laws.waters[yard][at]) {
                    waterAt = yard;
                    return;
                }
                sign = ground.signs[at];
                if (mind.pass(yard, sign) == 0) return;
                at = pick(ground.follows[at], ground.allBelow[at], at);
            }
        }

        private long lots() {
            lot = lot * STEP % RING;
            return lot;
        }

        /** The LAYER that a LOT draws by what each counts; without a LOT another one, if none counts. */
        private int pick(int[] counts, int all, int another) {
            if (all <= 0) return another;
            long drawn = lots() % all;
            long ahead = 0;
            for (int j = 0; j < mind.ground.layers && j < counts.length; j++) {
                ahead += counts[j];
                if (ahead > drawn) return j;
            }
            return another;
        }
    }

    /** The FARMS and the WELLS that they share. */
    private static final class Farms {
        private final int[] places = new int[MOST_FARMS];
        private final int[] needs = new int[MOST_FARMS];
        private int size;

        /** The number of a new FARM; FULL. */
        int settle(int x, int need) {
            int number = size;
            if (number >= MOST_FARMS) return FULL;
            places[number] = x;
            needs[number] = need;
            size = number + 1;
            return number;
        }

        /** The set of all of them. */
        int all() {
            return (1 << size) - 1;
        }

        private static boolean has(int set, int farm) {
            return (set >> farm & 1) == 1;
        }

        int walk(int set, int x) {
            int sum = 0;
            for (int i = 0; i < size; i++) {
                if (has(set, i)) sum += needs[i] * Math.abs(places[i] - x);
            }
            return sum;
        }

        /** Between two FARMS that are neighbours the walk rises or falls evenly: the least x lies at a FARM. */
        int wellOf(int set) {
            int chosen = -1;
            int least = 0;
            for (int i = 0; i < size; i++) {
                if (has(set, i)) {
                    int far = walk(set, places[i]);
                    if (chosen < 0 || far < least || far == least && places[i] < chosen) {
                        least = far;
                        chosen = places[i];
                    }
                }
            }
            return chosen;
        }

        /** The set that would rather have a WELL of its own, whose YARDS cost so much; see join(). */
        int leaving(int[] parts, int yards) {
            int everyone = all();
            for (int set = 1; set <= everyone; set++) {
                int given = given(parts, set);
                int due = walk(set, wellOf(set)) + yards;
                if (given > due || set == everyone && given < due) return set;
            }
            return -1;
        }

        private int given(int[] parts, int set) {
            int sum = 0;
            for (int i = 0; i < size && i < parts.length; i++) {
                if (has(set, i)) sum += parts[i];
            }
            return sum;
        }
    }

    /** The SHEETS. */
    private static final class Sheets {
        private final int[][] numbers = new int[MOST_SHEETS][SHEET_SIZE];
        private final int[] sorts = {-1, -1, -1, -1};
        private final int[] sizes = new int[MOST_SHEETS];

        boolean isMissing(int s) {
            return sorts[s] < 0;
        }

        void lay(int s, int sort, int n) {
            sorts[s] = sort;
            sizes[s] = n;
            for (int i = 0; i < SHEET_SIZE; i++) numbers[s][i] = 0;
        }

        boolean has(int s, int i) {
            return i >= 0 && i < sizes[s];
        }

        /** Whether n numbers from a place on stand in a SHEET. */
        boolean holds(int s, int i, int n) {
            return i >= 0 && n >= 0 && i <= sizes[s] && n <= sizes[s] - i;
        }

        void write(int s, int i, int v) {
            switch (sorts[s]) {
                case 0: numbers[s][i] = (byte) v; break;
                case 1: numbers[s][i] = (short) v; break;
                default: numbers[s][i] = v; break;
            }
        }

        boolean allWithin(int s, int least, int most) {
            for (int i = 0; i < sizes[s]; i++) {
                if (!within(numbers[s][i], least, most)) return false;
            }
            return true;
        }
    }

    /** AN IMAGE of what can be undone. */
    private static final class Image {
        private final Ground ground;
        private final Places places;
        private final int[] settings = new int[SETTINGS];
        private final int[][] follows = new int[MOST_LAYERS][MOST_LAYERS];
        private final int[][] signs = new int[MOST_PLACES][MOST_YARDS];
        private final int[] dry = new int[MOST_PLACES];
        private final boolean[] water = new boolean[MOST_PLACES];
        private final int[][] tied = new int[MOST_PLACES][MOST_PLACES];
        private int layers;
        private int size;
        private int law;
        private boolean isThere;

        Image(Ground ground, Places places) {
            this.ground = ground;
            this.places = places;
        }

        void keep(int inForce) {
            isThere = true;
            law = inForce;
            layers = ground.layers;
            size = places.size;
            System.arraycopy(ground.settings, 0, settings, 0, SETTINGS);
            carry(ground.follows, follows, MOST_LAYERS);
            carry(places.signs, signs, MOST_YARDS);
            carry(places.tied, tied, MOST_PLACES);
            for (int p = 0; p < MOST_PLACES; p++) {
                dry[p] = places.dry[p];
                water[p] = places.water[p];
            }
        }

        /** LAYERS and PLACES that came since are passed over, with all that is theirs. */
        void restore() {
            System.arraycopy(settings, 0, ground.settings, 0, SETTINGS);
            for (int i = 0; i < layers; i++) {
                for (int j = 0; j < layers; j++) ground.reweigh(i, j, follows[i][j]);
            }
            for (int p = 0; p < size; p++) {
                System.arraycopy(signs[p], 0, places.signs[p], 0, MOST_YARDS);
                System.arraycopy(tied[p], 0, places.tied[p], 0, size);
                places.dry[p] = dry[p];
                places.water[p] = water[p];
            }
        }

        private static void carry(int[][] from, int[][] to, int width) {
            for (int i = 0; i < from.length && i < to.length; i++) System.arraycopy(from[i], 0, to[i], 0, width);
        }
    }
}
