import java.util.Arrays;

/** A builder of hashes without a clash; the document ../shared/DOC.md says what each call promises. */
public final class PeeledHash {
    public static final int NONE = -1;

    private static final int KEYS = 1000;
    private static final int MOST_THERE = 30;
    private static final int PARTS = 3;
    private static final int LOWEST_SIDE = 2;
    private static final int HIGHEST_SIDE = 20;
    private static final int FIRST_SIDE = 4;
    private static final int MOST_VERTICES = PARTS * HIGHEST_SIDE;
    private static final int SEEDS = 256;
    private static final int SEEDS_FOR_LEAST_SIDE = 16;
    private static final int NO_SIGN = 3;
    private static final int SIGNS_A_BYTE = 4;

    private static final int TIME = 0;
    private static final int SLIPS = 1;
    private static final int MOOD = 2;
    private static final int MOST_TIME = 999;
    private static final int MOST_SLIPS = 10;
    private static final int MOST_MOOD = 9;

    private static final int MOST_SEEN = 6;
    private static final int MOST_LAWS = 6;
    private static final int MOST_UNDONE = 16;
    private static final int IMAGES = 2;
    private static final int DRAWN_KEYS = 40;
    private static final int DRAWN_DEEDS = 8;
    private static final int MOST_YEARS = 60;
    private static final int MOST_SOWING = 1000000;
    private static final long WHOLE_CHANCE = 1000000000000L;
    private static final int MOST_FEW = 20;
    private static final int MOST_FEW_KEYS = 99;

    private static final int BAD_NUMBER = -1;
    private static final int NO_SUCH = -2;
    private static final int CANNOT = -3;
    private static final int NO_ROOM = -5;
    private static final int BAD_TEXT = -6;

    // Kinds of changes, told by undo(); the two behind them are the clauses of laws.
    private static final int ADD = 0;
    private static final int TAKE = 1;
    private static final int SIDE = 2;
    private static final int SEED = 3;
    private static final int BUILD = 4;
    private static final int RANKS = 5;
    private static final int BARS = 6;

    private static final int MOST_BYTES = 400;
    private static final int BYTES_A_FEED = 20;
    private static final int MOST_CLAUSES = 12;
    private static final int MOST_PIECES = 50;
    private static final int MOST_BRACKETS = 8;
    private static final int MOST_NUMBER = 1000;
    private static final int MOST_TIMES = 20;
    private static final int MOST_RANK = 99;

    // All words of both languages, each with a blank behind it, in the order of their numbers below. Those of laws'
    // sums come first, those of orders' sums from "time" to "keys": a word's number is its place among what is told.
    private static final String VOCABULARY =
            "vertex part key seed mood degree time done latest keys number ranks bars add take side build times if or and not ";
    private static final int WORD_VERTEX = 0;
    private static final int WORD_PART = 1;
    private static final int WORD_KEY = 2;
    private static final int WORD_SEED = 3;
    private static final int WORD_MOOD = 4;
    private static final int WORD_DEGREE = 5;
    private static final int WORD_TIME = 6;
    private static final int WORD_DONE = 7;
    private static final int WORD_LATEST = 8;
    private static final int WORD_KEYS = 9;
    private static final int WORD_NUMBER = 10;
    private static final int WORD_RANKS = 11;
    private static final int WORD_BARS = 12;
    private static final int WORD_ADD = 13;
    private static final int WORD_TAKE = 14;
    private static final int WORD_SIDE = 15;
    private static final int WORD_BUILD = 16;
    private static final int WORD_TIMES = 17;
    private static final int WORD_IF = 18;
    private static final int WORD_OR = 19;
    private static final int WORD_AND = 20;
    private static final int WORD_NOT = 21;
    private static final int FIRST_LOOKUP = WORD_KEYS + 1;

    // Tokens are these, the numbers of words, and single bytes from FIRST_MARK on.
    private static final int UNKNOWN = 22;
    private static final int DIGITS = 23;
    private static final int AT_END = 24;
    private static final int FIRST_MARK = 25;
    private static final int BLANK = 32;

    // What a compiled text is made of. Each token makes one step at most, and a clause up to five more.
    private static final int MOST_STEPS = MOST_BYTES + 5 * MOST_CLAUSES;
    private static final int STOP = 0;
    private static final int NUMBER = 1;
    private static final int WORD = 2;
    private static final int NOT = 3;
    private static final int AND = 4;
    private static final int OR = 5;
    private static final int PLUS = 6;
    private static final int MINUS = 7;
    private static final int STAR = 8;
    private static final int SLASH = 9;
    private static final int PERCENT = 10;
    private static final int LESS = 11;
    private static final int MORE = 12;
    private static final int SAME = 13;

    private static final int MOST_VALUE = 1000000000;
    private static final int BROKEN = Integer.MIN_VALUE;
    private static final int NOT_RUN = Integer.MIN_VALUE;

    private final Whole now = new Whole();
    private final Whole[] images = new Whole[IMAGES];
    private final History past = new History();
    private final History recent = new History();
    private final State ahead = new State();
    private final State paper = new State();
    private final Sums sums = new Sums();
    private final Peeler peeler = new Peeler(sums);
    private final Reader reader = new Reader();
    private final Text noLaw = new Text(0, 0);
    private final int[] drawn = new int[DRAWN_KEYS];
    private final int[] refused = new int[5];
    private final int[] possible = new int[MOST_THERE];
    private final long[] chances = new long[MOST_FEW];
    private int stopped = NONE;
    private int blanks;
    private int status;

    public PeeledHash() {
        for (int k = 0; k < IMAGES; k++) {
            images[k] = new Whole();
        }
        Arrays.fill(drawn, NONE);
    }

    public int key(int key, int what) {
        if (!isKey(key)) {
            return NONE;
        }
        State state = now.state;
        switch (what) {
            case 0:
                return state.has(key) ? 1 : 0;
            case 1:
                return sums.isBarred(lawInForce(), state, key) ? 1 : 0;
            case 2:
            case 3:
            case 4:
                return vertexOf(key, what - 2, state.seed, state.side);
            default:
                return NONE;
        }
    }

    public int vertex(int vertex, int what) {
        State state = now.state;
        if (!state.hasVertex(vertex) || what < 0 || what > 1) {
            return NONE;
        }
        int degree = state.degreeOf(vertex);
        return what == 0 ? degree : sums.rankOf(lawInForce(), state, state.seed, vertex, degree);
    }

    public int there(int i) {
        State state = now.state;
        return i >= 0 && i < state.size ? state.keys[i] : NONE;
    }

    public int ceiling(int key) {
        State state = now.state;
        int place = state.lowerThan(key);
        return place < state.size ? state.keys[place] : NONE;
    }

    public int terms(int what, int value) {
        int most = what == TIME ? MOST_TIME : what == SLIPS ? MOST_SLIPS : what == MOOD ? MOST_MOOD : NONE;
        if (value < 0 || value > most) {
            return refuse(BAD_NUMBER);
        }
        int before = now.state.terms[what];
        now.state.terms[what] = value;
        past.clear();
        return accept(before);
    }

    public int feed(int a, int b, int c, int d, int e) {
        if (reader.length + BYTES_A_FEED > MOST_BYTES) {
            return NONE;
        }
        reader.append(a);
        reader.append(b);
        reader.append(c);
        reader.append(d);
        reader.append(e);
        return reader.length;
    }

    public int end(int n) {
        if (n < 0 || n > reader.length) {
            return NONE;
        }
        reader.length = n;
        return n;
    }

    public int row() {
        int length = reader.length;
        if (length == 0) {
            return refuse(BAD_TEXT);
        }
        int added = 0;
        blanks = 0;
        for (int at = 0; at < length; at += 2) {
            boolean whole = at + 1 < length;
            if (whole && addTo(now.state, reader.bytes[at] * 4 + reader.bytes[at + 1]) >= 0) {
                added++;
            } else {
                blanks++;
            }
        }
        reader.length = 0;
        past.clear();
        return accept(added);
    }

    public int blanks() {
        return blanks;
    }

    public int law() {
        if (now.lawSize >= MOST_LAWS) {
            reader.length = 0;
            return refuse(NO_ROOM);
        }
        if (!reader.read(false)) {
            return refuse(BAD_TEXT);
        }
        now.laws[now.lawSize] = reader.text.trimmed();
        now.lawSize++;
        return accept(now.lawSize - 1);
    }

    public int orders() {
        stopped = NONE;
        if (!reader.read(true)) {
            return refuse(BAD_TEXT);
        }
        Text text = reader.text;
        ahead.copyFrom(now.state);
        recent.clear();
        int done = 0;
        int latest = NONE;
        for (int clause = 0; clause < text.size; clause++) {
            for (int time = 0; time < text.times[clause]; time++) {
                int answer = runOnce(text, clause, done, latest);
                if (answer == NOT_RUN) {
                    continue;
                }
                if (answer < 0) {
                    now.state.copyFrom(ahead);
                    stopped = clause;
                    return refuse(CANNOT);
                }
                done++;
                if (text.kinds[clause] == BUILD) {
                    latest = answer;
                }
            }
        }
        past.appendAll(recent);
        return accept(done);
    }

    public int fault() {
        return reader.fault;
    }

    public int stopped() {
        return stopped;
    }

    public int force(int law) {
        if (law < NONE || law >= now.lawSize) {
            return refuse(NO_SUCH);
        }
        int before = now.force;
        now.force = law;
        return accept(before);
    }

    public int add(int key) {
        return change(ADD, key);
    }

    public int take(int key) {
        return change(TAKE, key);
    }

    public int side(int side) {
        return change(SIDE, side);
    }

    public int seed(int seed) {
        return change(SEED, seed);
    }

    public int build() {
        return change(BUILD, 0);
    }

    public int undo() {
        int kind = past.takeBack(now.state);
        return kind < 0 ? refuse(kind) : accept(kind);
    }

    public int core(int seed) {
        return isSeed(seed) ? peeler.coreSize(now.state, seed, now.state.side) : NONE;
    }

    public int peeled(int i, int what) {
        State state = now.state;
        if (i < 0 || i >= state.size || what < 0 || what > 1) {
            return NONE;
        }
        peeler.peel(state, state.seed, lawInForce());
        if (i >= peeler.gone) {
            return NONE;
        }
        return what == 0 ? state.keys[peeler.leavers[i]] : peeler.frees[i];
    }

    public int good(int i) {
        if (i < NONE) {
            return NONE;
        }
        int found = 0;
        for (int seed = 0; seed < SEEDS; seed++) {
            if (!peeler.leavesNone(now.state, seed, now.state.side)) {
                continue;
            }
            if (found == i) {
                return seed;
            }
            found++;
        }
        return i == NONE ? found : NONE;
    }

    public int leastSide() {
        for (int side = LOWEST_SIDE; side <= HIGHEST_SIDE; side++) {
            for (int seed = 0; seed < SEEDS_FOR_LEAST_SIDE; seed++) {
                if (peeler.leavesNone(now.state, seed, side)) {
                    return side;
                }
            }
        }
        return NONE;
    }

    public int found(int key, int what) {
        Table table = now.state.table;
        if (!table.built || !isKey(key)) {
            return NONE;
        }
        switch (what) {
            case 0:
                return table.ownVertex(key);
            case 1:
                return table.numberOf(key);
            case 2:
                return table.placeOf(key);
            default:
                return NONE;
        }
    }

    public int table(int what) {
        Table table = now.state.table;
        if (!table.built || what < 0) {
            return NONE;
        }
        switch (what) {
            case 0:
                return table.side;
            case 1:
                return table.seed;
            case 2:
                return table.size;
            case 3:
                return table.signsBelow(MOST_VERTICES);
            default:
                return what < 4 + MOST_VERTICES ? table.signAt(what - 4) : table.packed(what - 4 - MOST_VERTICES);
        }
    }

    public int twin(int key) {
        Table table = now.state.table;
        if (!table.built || !isKey(key) || table.hadKey(key)) {
            return NONE;
        }
        int number = table.numberOf(key);
        for (int i = 0; i < table.size; i++) {
            if (table.numberOf(table.keys[i]) == number) {
                return table.keys[i];
            }
        }
        return NONE;
    }

    public int seen(int vertex, int is) {
        if (vertex < 0 || vertex >= MOST_VERTICES || is < 0 || is > 1) {
            return refuse(BAD_NUMBER);
        }
        if (now.seenSize >= MOST_SEEN) {
            return refuse(NO_ROOM);
        }
        now.seenVertices[now.seenSize] = vertex;
        now.seenIs[now.seenSize] = is;
        now.seenSize++;
        return accept(now.seenSize);
    }

    public int forget() {
        int before = now.seenSize;
        now.seenSize = 0;
        return before;
    }

    public int canBe(int i) {
        int size = collectPossible();
        if (i == NONE) {
            return size;
        }
        return i >= 0 && i < size ? possible[i] : NONE;
    }

    public int ask(int what) {
        int size = collectPossible();
        if (size == 0 || what < 0 || what > 1) {
            return NONE;
        }
        State state = now.state;
        int best = 0;
        int fewest = MOST_THERE + 1;
        for (int vertex = 0; vertex < PARTS * state.side; vertex++) {
            int having = 0;
            for (int i = 0; i < size; i++) {
                if (state.keyHas(possible[i], vertex)) {
                    having++;
                }
            }
            int left = Math.max(having, size - having);
            if (left < fewest) {
                fewest = left;
                best = vertex;
            }
        }
        return what == 0 ? best : fewest;
    }

    public long few(int k, int n) {
        if (k < 1 || k > MOST_FEW || n < 0 || n > MOST_FEW_KEYS) {
            return NONE;
        }
        long slips = now.state.terms[SLIPS];
        Arrays.fill(chances, 0L);
        chances[0] = WHOLE_CHANCE;
        for (int key = 0; key < n; key++) {
            // Downwards, so that the part below is still that of the key before.
            for (int did = k - 1; did >= 0; did--) {
                long slipped = did == 0 ? 0L : chances[did - 1] * slips / 10L;
                chances[did] = chances[did] * (10L - slips) / 10L + slipped;
            }
        }
        long together = 0L;
        for (int did = 0; did < k; did++) {
            together += chances[did];
        }
        return together;
    }

    public int compare(int law, int vertex) {
        State state = now.state;
        if (law < NONE || law >= now.lawSize || !state.hasVertex(vertex)) {
            return NONE;
        }
        return sums.rankOf(lawNumbered(law), state, state.seed, vertex, state.degreeOf(vertex));
    }

    public int years(int sowing, int n) {
        if (sowing < 0 || sowing > MOST_SOWING || n < 1 || n > MOST_YEARS) {
            return refuse(BAD_NUMBER);
        }
        paper.copyFrom(now.state);
        int drawing = sowing;
        for (int year = 0; year < n; year++) {
            drawing = nextDrawing(drawing);
            int key = drawing % DRAWN_KEYS;
            drawing = nextDrawing(drawing);
            int deed = drawing % DRAWN_DEEDS;
            carryOut(paper, deed < 5 ? ADD : deed == 5 ? TAKE : BUILD, key);
        }
        for (int key = 0; key < DRAWN_KEYS; key++) {
            drawn[key] = paper.table.numberOf(key);
        }
        return accept(paper.size);
    }

    public int drawn(int k) {
        return k >= 0 && k < DRAWN_KEYS ? drawn[k] : NONE;
    }

    public int image(int k) {
        Whole image = imageNumbered(k);
        if (image == null) {
            return refuse(BAD_NUMBER);
        }
        image.copyFrom(now);
        image.kept = true;
        return accept(0);
    }

    public int back(int k) {
        Whole image = imageNumbered(k);
        if (image == null) {
            return refuse(BAD_NUMBER);
        }
        if (!image.kept) {
            return refuse(NO_SUCH);
        }
        now.copyFrom(image);
        past.clear();
        return accept(0);
    }

    public int count(int what) {
        State state = now.state;
        switch (what) {
            case 0:
                return state.size;
            case 1:
                return state.side;
            case 2:
                return state.seed;
            case 3:
                return now.seenSize;
            case 4:
                return now.lawSize;
            case 5:
                return past.size;
            case 6:
                return reader.length;
            case 12:
                return now.force;
            default:
                break;
        }
        if (what >= 7 && what <= 11) {
            return refused[what - 7];
        }
        return what >= 13 && what <= 15 ? state.terms[what - 13] : NONE;
    }

    public int status() {
        return status;
    }

    private int refuse(int by) {
        status = by;
        switch (by) {
            case BAD_NUMBER:
                refused[0]++;
                break;
            case NO_SUCH:
                refused[1]++;
                break;
            case CANNOT:
                refused[2]++;
                break;
            case NO_ROOM:
                refused[3]++;
                break;
            default:
                refused[4]++;
                break;
        }
        return by;
    }

    private int accept(int answer) {
        status = 0;
        return answer;
    }

    private Whole imageNumbered(int k) {
        return k >= 0 && k < IMAGES ? images[k] : null;
    }

    private Text lawNumbered(int law) {
        Text text = law >= 0 && law < now.lawSize ? now.laws[law] : null;
        return text == null ? noLaw : text;
    }

    private Text lawInForce() {
        return lawNumbered(now.force);
    }

    private int change(int kind, int value) {
        past.draft(now.state);
        int answer = carryOut(now.state, kind, value);
        if (answer < 0) {
            return refuse(answer);
        }
        past.keep(kind);
        return accept(answer);
    }

    /** What the change answers, or what it is refused by: no answer of a change that was done is below 0. */
    private int carryOut(State state, int kind, int value) {
        switch (kind) {
            case ADD:
                return addTo(state, value);
            case TAKE:
                return takeFrom(state, value);
            case SIDE:
                return setSide(state, value);
            case SEED:
                return setSeed(state, value);
            default:
                return buildOn(state);
        }
    }

    private int addTo(State state, int key) {
        if (!isKey(key)) {
            return BAD_NUMBER;
        }
        if (state.has(key) || sums.isBarred(lawInForce(), state, key)) {
            return CANNOT;
        }
        if (state.size >= MOST_THERE) {
            return NO_ROOM;
        }
        state.insert(key);
        return state.size;
    }

    private static int takeFrom(State state, int key) {
        if (!isKey(key)) {
            return BAD_NUMBER;
        }
        if (!state.has(key)) {
            return CANNOT;
        }
        state.remove(key);
        return state.size;
    }

    private static int setSide(State state, int side) {
        if (side < LOWEST_SIDE || side > HIGHEST_SIDE) {
            return BAD_NUMBER;
        }
        if (side == state.side) {
            return CANNOT;
        }
        int before = state.side;
        state.side = side;
        return before;
    }

    private static int setSeed(State state, int seed) {
        if (!isSeed(seed)) {
            return BAD_NUMBER;
        }
        if (seed == state.seed) {
            return CANNOT;
        }
        int before = state.seed;
        state.seed = seed;
        return before;
    }

    private int buildOn(State state) {
        for (int tried = 0; tried < SEEDS; tried++) {
            int seed = (state.seed + tried) % SEEDS;
            if (!peeler.leavesNone(state, seed, state.side)) {
                continue;
            }
            peeler.peel(state, seed, lawInForce());
            state.seed = seed;
            state.table.solve(state, peeler);
            state.terms[TIME] = Math.min(state.terms[TIME] + 1, MOST_TIME);
            return tried;
        }
        return CANNOT;
    }

    private int runOnce(Text text, int clause, int done, int latest) {
        State state = now.state;
        tellOrders(done, latest);
        if (sums.valueOf(text, text.tests[clause]) != 1) {
            return NOT_RUN;
        }
        int value = sums.valueOf(text, text.sums[clause]);
        if (value == BROKEN) {
            return CANNOT;
        }
        recent.draft(state);
        int answer = carryOut(state, text.kinds[clause], value);
        if (answer >= 0) {
            recent.keep(text.kinds[clause]);
        }
        return answer;
    }

    private void tellOrders(int done, int latest) {
        State state = now.state;
        int[] words = sums.words;
        words[WORD_TIME] = state.terms[TIME];
        words[WORD_DONE] = done;
        words[WORD_LATEST] = latest;
        words[WORD_KEYS] = state.size;
        for (int i = 0; i < reader.lookups; i++) {
            int asked = reader.lookupNumbers[i];
            words[FIRST_LOOKUP + i] = reader.lookupIsDegree[i] ? state.degreeOf(asked) : state.table.numberOf(asked);
        }
    }

    private int collectPossible() {
        State state = now.state;
        int size = 0;
        for (int i = 0; i < state.size; i++) {
            if (now.fitsSeen(state.keys[i])) {
                possible[size] = state.keys[i];
                size++;
            }
        }
        return size;
    }

    private static int nextDrawing(int drawing) {
        return (int) ((drawing * 1103L + 12345L) % 1000003L);
    }

    private static boolean isKey(int key) {
        return key >= 0 && key < KEYS;
    }

    private static boolean isSeed(int seed) {
        return seed >= 0 && seed < SEEDS;
    }

    private static int vertexOf(int key, int part, int seed, int side) {
        int mixed = key * (part * 114 + 377) + seed * (part * 50 + 101) + part * 5;
        return side < 1 ? 0 : part * side + mixed % 1009 % side;
    }

    /** All that a change touches and undo() brings back. SLIPS and MOOD may be in it: terms() leaves nothing to undo. */
    private static final class State {
        final int[] keys = new int[MOST_THERE];
        final int[] terms = new int[PARTS];
        final Table table = new Table();
        int size;
        int side = FIRST_SIDE;
        int seed;

        State() {
            terms[SLIPS] = 1;
        }

        void copyFrom(State other) {
            System.arraycopy(other.keys, 0, keys, 0, MOST_THERE);
            System.arraycopy(other.terms, 0, terms, 0, PARTS);
            table.copyFrom(other.table);
            size = other.size;
            side = other.side;
            seed = other.seed;
        }

        int lowerThan(int key) {
            int lower = 0;
            for (int i = 0; i < size && keys[i] < key; i++) {
                lower++;
            }
            return lower;
        }

        boolean has(int key) {
            int place = lowerThan(key);
            return place < size && keys[place] == key;
        }

        void insert(int key) {
            int place = lowerThan(key);
            if (size >= MOST_THERE) {
                return;
            }
            for (int i = size; i > place; i--) {
                keys[i] = keys[i - 1];
            }
            keys[place] = key;
            size++;
        }

        void remove(int key) {
            if (!has(key)) {
                return;
            }
            for (int i = lowerThan(key); i + 1 < size; i++) {
                keys[i] = keys[i + 1];
            }
            size--;
        }

        boolean hasVertex(int vertex) {
            return vertex >= 0 && vertex < PARTS * side;
        }

        boolean keyHas(int key, int vertex) {
            return hasVertex(vertex) && side > 0 && vertexOf(key, vertex / side, seed, side) == vertex;
        }

        int degreeOf(int vertex) {
            if (!hasVertex(vertex)) {
                return NONE;
            }
            int degree = 0;
            for (int i = 0; i < size; i++) {
                if (keyHas(keys[i], vertex)) {
                    degree++;
                }
            }
            return degree;
        }
    }

    /** What the latest build told; it keeps its keys, for by then others may be there. */
    private static final class Table {
        final int[] keys = new int[MOST_THERE];
        final int[] signs = new int[MOST_VERTICES];
        final int[] steps = new int[MOST_VERTICES];
        boolean built;
        int size;
        int side = FIRST_SIDE;
        int seed;

        void copyFrom(Table other) {
            built = other.built;
            // Without a table nothing else of it is ever asked.
            if (!built) {
                return;
            }
            System.arraycopy(other.keys, 0, keys, 0, MOST_THERE);
            System.arraycopy(other.signs, 0, signs, 0, MOST_VERTICES);
            System.arraycopy(other.steps, 0, steps, 0, MOST_VERTICES);
            size = other.size;
            side = other.side;
            seed = other.seed;
        }

        void solve(State state, Peeler peeled) {
            built = true;
            size = state.size;
            side = state.side;
            seed = state.seed;
            System.arraycopy(state.keys, 0, keys, 0, MOST_THERE);
            Arrays.fill(signs, NO_SIGN);
            Arrays.fill(steps, 0);
            for (int turn = peeled.gone - 1; turn >= 0; turn--) {
                settle(peeled.frees[turn], peeled.leavers[turn], peeled.ends);
            }
        }

        /** The keys stand rising, so that a key's place among them is how many are lower. */
        private void settle(int free, int place, int[] ends) {
            int otherSigns = 0;
            int otherSteps = 0;
            for (int part = 0; part < PARTS; part++) {
                int vertex = ends[PARTS * place + part];
                if (vertex != free) {
                    otherSigns += signs[vertex];
                    otherSteps += steps[vertex];
                }
            }
            if (side > 0 && size > 0) {
                signs[free] = Math.floorMod(free / side - otherSigns, PARTS);
                steps[free] = Math.floorMod(place - otherSteps, size);
            }
        }

        boolean hadKey(int key) {
            for (int i = 0; i < size; i++) {
                if (keys[i] == key) {
                    return true;
                }
            }
            return false;
        }

        int ownVertex(int key) {
            int together = 0;
            for (int part = 0; part < PARTS; part++) {
                together += signs[vertexOf(key, part, seed, side)];
            }
            return vertexOf(key, together % PARTS, seed, side);
        }

        int numberOf(int key) {
            return built ? signsBelow(ownVertex(key)) : NONE;
        }

        int placeOf(int key) {
            int together = 0;
            for (int part = 0; part < PARTS; part++) {
                together += steps[vertexOf(key, part, seed, side)];
            }
            return size > 0 ? together % size : 0;
        }

        int signsBelow(int vertex) {
            int below = 0;
            for (int v = 0; v < vertex && v < PARTS * side; v++) {
                if (signs[v] != NO_SIGN) {
                    below++;
                }
            }
            return below;
        }

        int signAt(int vertex) {
            return vertex >= 0 && vertex < PARTS * side ? signs[vertex] : NONE;
        }

        int packed(int at) {
            if (at < 0 || at >= MOST_VERTICES || signAt(SIGNS_A_BYTE * at) == NONE) {
                return NONE;
            }
            int packed = 0;
            for (int i = SIGNS_A_BYTE - 1; i >= 0; i--) {
                int sign = signAt(SIGNS_A_BYTE * at + i);
                packed = packed * 4 + (sign == NONE ? NO_SIGN : sign);
            }
            return packed;
        }
    }

    /** All that an image keeps. Laws never change once they are read, so images may share them. */
    private static final class Whole {
        final State state = new State();
        final int[] seenVertices = new int[MOST_SEEN];
        final int[] seenIs = new int[MOST_SEEN];
        final Text[] laws = new Text[MOST_LAWS];
        int seenSize;
        int lawSize;
        int force = NONE;
        boolean kept;

        void copyFrom(Whole other) {
            state.copyFrom(other.state);
            for (int i = 0; i < MOST_SEEN; i++) {
                seenVertices[i] = other.seenVertices[i];
                seenIs[i] = other.seenIs[i];
            }
            for (int i = 0; i < MOST_LAWS; i++) {
                laws[i] = other.laws[i];
            }
            seenSize = other.seenSize;
            lawSize = other.lawSize;
            force = other.force;
        }

        boolean fitsSeen(int key) {
            for (int i = 0; i < seenSize; i++) {
                if (state.keyHas(key, seenVertices[i]) != (seenIs[i] == 1)) {
                    return false;
                }
            }
            return true;
        }
    }

    /** The states ahead of the latest changes, in a ring with one more slot, in which the next one is drafted. */
    private static final class History {
        private static final int SLOTS = MOST_UNDONE + 1;
        final State[] states = new State[SLOTS];
        final int[] kinds = new int[SLOTS];
        int first;
        int size;

        History() {
            for (int i = 0; i < SLOTS; i++) {
                states[i] = new State();
            }
        }

        void clear() {
            size = 0;
        }

        void draft(State state) {
            State next = states[slot(size)];
            if (state != null && next != null) {
                next.copyFrom(state);
            }
        }

        void keep(int kind) {
            kinds[slot(size)] = kind;
            if (size < MOST_UNDONE) {
                size++;
            } else {
                first = slot(1);
            }
        }

        int takeBack(State into) {
            State latest = size > 0 ? states[slot(size - 1)] : null;
            if (latest == null) {
                return CANNOT;
            }
            size--;
            into.copyFrom(latest);
            return kinds[slot(size)];
        }

        void appendAll(History other) {
            for (int i = 0; i < other.size; i++) {
                int from = other.slot(i);
                draft(other.states[from]);
                keep(other.kinds[from]);
            }
        }

        private int slot(int i) {
            return (first + i) % SLOTS;
        }
    }

    /** Peels the keys of a state; what it found stands till the next call. */
    private static final class Peeler {
        final int[] ends = new int[PARTS * MOST_THERE];
        final int[] leavers = new int[MOST_THERE];
        final int[] frees = new int[MOST_THERE];
        private final int[] degrees = new int[MOST_VERTICES];
        // The places of the keys that a vertex has left, all in one by xor: of a single key it is that key's place.
        private final int[] holders = new int[MOST_VERTICES];
        private final int[] ranks = new int[MOST_VERTICES];
        private final int[] waiting = new int[MOST_VERTICES + PARTS];
        private final Sums sums;
        int gone;

        Peeler(Sums sums) {
            this.sums = sums;
        }

        boolean leavesNone(State state, int seed, int side) {
            // Each key needs a vertex of its own, so that more keys than vertices always leave a core.
            return state.size <= PARTS * side && coreSize(state, seed, side) == 0;
        }

        /** The core is the same in whatever order the keys leave: no law is asked. */
        int coreSize(State state, int seed, int side) {
            lay(state, seed, side);
            int last = 0;
            for (int vertex = 0; vertex < PARTS * side && vertex < MOST_VERTICES; vertex++) {
                if (degrees[vertex] == 1) {
                    waiting[last] = vertex;
                    last++;
                }
            }
            int left = state.size;
            for (int next = 0; next < last && next < MOST_VERTICES; next++) {
                int vertex = waiting[next];
                if (degrees[vertex] == 1) {
                    last = letGo(holders[vertex], last);
                    left--;
                }
            }
            return left;
        }

        void peel(State state, int seed, Text law) {
            lay(state, seed, state.side);
            for (int vertex = 0; vertex < PARTS * state.side; vertex++) {
                ranks[vertex] = sums.rankOf(law, state, seed, vertex, degrees[vertex]);
            }
            gone = 0;
            for (int turn = 0; turn < state.size; turn++) {
                int free = leastFree(PARTS * state.side);
                if (free == NONE) {
                    return;
                }
                leavers[gone] = holders[free];
                frees[gone] = free;
                gone++;
                letGo(holders[free], 0);
            }
        }

        private void lay(State state, int seed, int side) {
            Arrays.fill(degrees, 0);
            Arrays.fill(holders, 0);
            for (int place = 0; place < state.size; place++) {
                for (int part = 0; part < PARTS; part++) {
                    int vertex = vertexOf(state.keys[place], part, seed, side);
                    ends[PARTS * place + part] = vertex;
                    degrees[vertex]++;
                    holders[vertex] ^= place;
                }
            }
        }

        private int leastFree(int vertices) {
            int best = NONE;
            for (int vertex = 0; vertex < vertices; vertex++) {
                if (degrees[vertex] == 1 && (best == NONE || ranks[vertex] < ranks[best])) {
                    best = vertex;
                }
            }
            return best;
        }

        /** The vertices which then have just one key come to wait behind the last that waits. */
        private int letGo(int place, int last) {
            int end = last;
            for (int part = 0; part < PARTS; part++) {
                int vertex = ends[PARTS * place + part];
                degrees[vertex]--;
                holders[vertex] ^= place;
                if (degrees[vertex] == 1 && end < waiting.length) {
                    waiting[end] = vertex;
                    end++;
                }
            }
            return end;
        }
    }

    /** A text that was read: of each clause where its sum and its test begin among the steps, which end with STOP. */
    private static final class Text {
        final int[] kinds;
        final int[] times;
        final int[] sums;
        final int[] tests;
        final int[] steps;
        final int[] numbers;
        int size;
        int length;

        Text(int mostClauses, int mostSteps) {
            int clauses = Math.max(mostClauses, 0);
            int stepsInAll = Math.max(mostSteps, 0);
            kinds = new int[clauses];
            times = new int[clauses];
            sums = new int[clauses];
            tests = new int[clauses];
            steps = new int[stepsInAll];
            numbers = new int[stepsInAll];
        }

        void clear() {
            size = 0;
            length = 0;
        }

        int put(int step, int number) {
            if (length >= steps.length) {
                return NONE;
            }
            steps[length] = step;
            numbers[length] = number;
            length++;
            return length - 1;
        }

        void jumpToHere(int from) {
            if (from >= 0 && from < length) {
                numbers[from] = length;
            }
        }

        Text trimmed() {
            Text copy = new Text(size, length);
            System.arraycopy(kinds, 0, copy.kinds, 0, size);
            System.arraycopy(times, 0, copy.times, 0, size);
            System.arraycopy(sums, 0, copy.sums, 0, size);
            System.arraycopy(tests, 0, copy.tests, 0, size);
            System.arraycopy(steps, 0, copy.steps, 0, length);
            System.arraycopy(numbers, 0, copy.numbers, 0, length);
            copy.size = size;
            copy.length = length;
            return copy;
        }
    }

    /** Asks texts: what their sums and tests are by the words as they stand. */
    private static final class Sums {
        final int[] words = new int[FIRST_LOOKUP + MOST_PIECES];
        private final int[] stack = new int[MOST_PIECES + 1];

        int rankOf(Text law, State state, int seed, int vertex, int degree) {
            tellLaw(state, seed);
            words[WORD_VERTEX] = vertex;
            words[WORD_PART] = state.side > 0 ? vertex / state.side : NONE;
            words[WORD_DEGREE] = degree;
            words[WORD_KEY] = NONE;
            int rank = 0;
            for (int clause = 0; clause < law.size; clause++) {
                if (law.kinds[clause] != RANKS || valueOf(law, law.tests[clause]) != 1) {
                    continue;
                }
                int told = valueOf(law, law.sums[clause]);
                if (told != BROKEN) {
                    rank = told < 0 ? 0 : told > MOST_RANK ? MOST_RANK : told;
                }
            }
            return rank;
        }

        boolean isBarred(Text law, State state, int key) {
            tellLaw(state, state.seed);
            words[WORD_VERTEX] = NONE;
            words[WORD_PART] = NONE;
            words[WORD_DEGREE] = NONE;
            words[WORD_KEY] = key;
            for (int clause = 0; clause < law.size; clause++) {
                if (law.kinds[clause] == BARS && valueOf(law, law.tests[clause]) == 1) {
                    return true;
                }
            }
            return false;
        }

        private void tellLaw(State state, int seed) {
            words[WORD_SEED] = seed;
            words[WORD_TIME] = state.terms[TIME];
            words[WORD_MOOD] = state.terms[MOOD];
        }

        /** A sum's number, a test's 1 or 0, or BROKEN. */
        int valueOf(Text text, int from) {
            int depth = 0;
            int at = from;
            for (int turn = 0; turn < MOST_STEPS && at >= 0 && at < text.length; turn++) {
                int step = text.steps[at];
                int number = text.numbers[at];
                at++;
                if (step == STOP) {
                    break;
                }
                if (step == NUMBER || step == WORD) {
                    if (depth >= stack.length || number < 0 || step == WORD && number >= words.length) {
                        return BROKEN;
                    }
                    stack[depth] = step == NUMBER ? number : words[number];
                    depth++;
                } else if (depth < 1) {
                    return BROKEN;
                } else if (step == NOT) {
                    stack[depth - 1] = 1 - stack[depth - 1];
                } else if (step == AND || step == OR) {
                    // What stands behind is asked only if what stands ahead has not settled it.
                    if (stack[depth - 1] == (step == OR ? 1 : 0)) {
                        at = number;
                    } else {
                        depth--;
                    }
                } else {
                    depth--;
                    int value = depth < 1 ? BROKEN : combined(step, stack[depth - 1], stack[depth]);
                    if (value == BROKEN) {
                        return BROKEN;
                    }
                    stack[depth - 1] = value;
                }
            }
            return depth == 1 ? stack[0] : BROKEN;
        }

        private static int combined(int step, int left, int right) {
            long value = 0L;
            switch (step) {
                case PLUS:
                    value = (long) left + right;
                    break;
                case MINUS:
                    value = (long) left - right;
                    break;
                case STAR:
                    value = (long) left * right;
                    break;
                case SLASH:
                case PERCENT:
                    if (right == 0) {
                        return BROKEN;
                    }
                    value = step == SLASH ? left / right : left % right;
                    break;
                case LESS:
                    return left < right ? 1 : 0;
                case MORE:
                    return left > right ? 1 : 0;
                case SAME:
                    return left == right ? 1 : 0;
                default:
                    return BROKEN;
            }
            return value > MOST_VALUE || value < -MOST_VALUE ? BROKEN : (int) value;
        }
    }

    /** The tape, and the reading of it as a text of either language. */
    private static final class Reader {
        final int[] bytes = new int[MOST_BYTES];
        final Text text = new Text(MOST_CLAUSES, MOST_STEPS);
        // What "degree" and "number" ask for, in the order in which they stand in the text.
        final int[] lookupNumbers = new int[MOST_PIECES];
        final boolean[] lookupIsDegree = new boolean[MOST_PIECES];
        int lookups;
        int length;
        int fault = NONE;
        private final int[] tokens = new int[MOST_BYTES + 1];
        private final int[] starts = new int[MOST_BYTES + 1];
        private final int[] numbers = new int[MOST_BYTES + 1];
        private int at;
        private int pieces;
        private boolean ofOrders;

        void append(int four) {
            for (int shift = 24; shift >= 0 && length < MOST_BYTES; shift -= 8) {
                bytes[length] = four >>> shift & 255;
                length++;
            }
        }

        /** Whether the tape, which is empty then, is a text without a fault. */
        boolean read(boolean orders) {
            splitIntoTokens();
            length = 0;
            fault = NONE;
            at = 0;
            pieces = 0;
            lookups = 0;
            ofOrders = orders;
            text.clear();
            for (int clause = 0; clause < MOST_CLAUSES; clause++) {
                if (!readClause(clause)) {
                    return false;
                }
                if (tokens[at] == AT_END) {
                    return true;
                }
                if (!passMark(';')) {
                    return false;
                }
            }
            return fail();
        }

        private void splitIntoTokens() {
            int size = 0;
            int start = 0;
            while (start < length) {
                int behind = start + 1;
                int kind = kindOf(bytes[start]);
                while (kind != FIRST_MARK && behind < length && kindOf(bytes[behind]) == kind) {
                    behind++;
                }
                if (bytes[start] != BLANK) {
                    starts[size] = start;
                    numbers[size] = kind == DIGITS ? numberBetween(start, behind) : NONE;
                    tokens[size] = kind == UNKNOWN ? wordBetween(start, behind)
                            : kind == DIGITS ? DIGITS : FIRST_MARK + bytes[start];
                    size++;
                }
                start = behind;
            }
            starts[size] = length;
            numbers[size] = NONE;
            tokens[size] = AT_END;
        }

        private static int kindOf(int sign) {
            if (sign >= 'a' && sign <= 'z') {
                return UNKNOWN;
            }
            return sign >= '0' && sign <= '9' ? DIGITS : FIRST_MARK;
        }

        private int wordBetween(int start, int behind) {
            int word = 0;
            int same = 0;
            for (int i = 0; i < VOCABULARY.length(); i++) {
                char letter = VOCABULARY.charAt(i);
                if (letter != BLANK) {
                    boolean goesOn = same != NONE && start + same < behind && bytes[start + same] == letter;
                    same = goesOn ? same + 1 : NONE;
                } else if (same == behind - start) {
                    return word;
                } else {
                    word++;
                    same = 0;
                }
            }
            return UNKNOWN;
        }

        private int numberBetween(int start, int behind) {
            int number = 0;
            for (int i = start; i < behind; i++) {
                // Held down, for a row of digits may be as long as the tape.
                number = Math.min(number * 10 + bytes[i] - '0', MOST_NUMBER + 1);
            }
            return number;
        }

        private boolean readClause(int clause) {
            int what = ofOrders ? orderKind() : lawKind();
            if (what == NONE) {
                return fail();
            }
            pass();
            text.kinds[clause] = what;
            text.times[clause] = 1;
            text.sums[clause] = text.length;
            // A sum or a test that a clause has not is put in its place, so that every clause is asked alike.
            if (what == BUILD || what == BARS) {
                text.put(NUMBER, 0);
            } else if (!readSum(0)) {
                return false;
            }
            text.put(STOP, 0);
            if (ofOrders && tokens[at] == WORD_TIMES && !readTimes(clause)) {
                return false;
            }
            text.tests[clause] = text.length;
            if (tokens[at] != WORD_IF) {
                text.put(NUMBER, 1);
            } else {
                pass();
                if (!readTest(0)) {
                    return false;
                }
            }
            text.put(STOP, 0);
            text.size = clause + 1;
            return true;
        }

        private int lawKind() {
            return tokens[at] == WORD_RANKS ? RANKS : tokens[at] == WORD_BARS ? BARS : NONE;
        }

        private int orderKind() {
            switch (tokens[at]) {
                case WORD_ADD:
                    return ADD;
                case WORD_TAKE:
                    return TAKE;
                case WORD_SIDE:
                    return SIDE;
                case WORD_SEED:
                    return SEED;
                case WORD_BUILD:
                    return BUILD;
                default:
                    return NONE;
            }
        }

        private boolean readTimes(int clause) {
            pass();
            if (numbers[at] < 1 || numbers[at] > MOST_TIMES) {
                return fail();
            }
            text.times[clause] = numbers[at];
            pass();
            return true;
        }

        private boolean readTest(int depth) {
            if (!readBoth(depth)) {
                return false;
            }
            for (int i = 0; i < MOST_BYTES && tokens[at] == WORD_OR; i++) {
                pass();
                int jump = text.put(OR, 0);
                if (!readBoth(depth)) {
                    return false;
                }
                text.jumpToHere(jump);
            }
            return true;
        }

        private boolean readBoth(int depth) {
            if (!readPlain(depth)) {
                return false;
            }
            for (int i = 0; i < MOST_BYTES && tokens[at] == WORD_AND; i++) {
                pass();
                int jump = text.put(AND, 0);
                if (!readPlain(depth)) {
                    return false;
                }
                text.jumpToHere(jump);
            }
            return true;
        }

        private boolean readPlain(int depth) {
            boolean not = false;
            for (int i = 0; i < MOST_BYTES && tokens[at] == WORD_NOT; i++) {
                not = !not;
                pass();
            }
            if (isMark('(')) {
                if (depth >= MOST_BRACKETS) {
                    return fail();
                }
                pass();
                if (!readTest(depth + 1) || !passMark(')')) {
                    return false;
                }
            } else {
                if (!readSum(depth)) {
                    return false;
                }
                int step = isMark('<') ? LESS : isMark('>') ? MORE : isMark('=') ? SAME : NONE;
                if (step == NONE) {
                    return fail();
                }
                pass();
                if (!readSum(depth)) {
                    return false;
                }
                text.put(step, 0);
            }
            if (not) {
                text.put(NOT, 0);
            }
            return true;
        }

        private boolean readSum(int depth) {
            if (!readTerm(depth)) {
                return false;
            }
            for (int i = 0; i < MOST_BYTES; i++) {
                int step = isMark('+') ? PLUS : isMark('-') ? MINUS : NONE;
                if (step == NONE) {
                    return true;
                }
                pass();
                if (!readTerm(depth)) {
                    return false;
                }
                text.put(step, 0);
            }
            return true;
        }

        private boolean readTerm(int depth) {
            if (!readPiece(depth)) {
                return false;
            }
            for (int i = 0; i < MOST_BYTES; i++) {
                int step = isMark('*') ? STAR : isMark('/') ? SLASH : isMark('%') ? PERCENT : NONE;
                if (step == NONE) {
                    return true;
                }
                pass();
                if (!readPiece(depth)) {
                    return false;
                }
                text.put(step, 0);
            }
            return true;
        }

        private boolean readPiece(int depth) {
            if (isMark('[')) {
                if (depth >= MOST_BRACKETS) {
                    return fail();
                }
                pass();
                return readSum(depth + 1) && passMark(']');
            }
            if (pieces >= MOST_PIECES) {
                return fail();
            }
            pieces++;
            int token = tokens[at];
            if (ofOrders && (token == WORD_DEGREE || token == WORD_NUMBER)) {
                return readLookup(token == WORD_DEGREE);
            }
            int first = ofOrders ? WORD_TIME : WORD_VERTEX;
            int last = ofOrders ? WORD_KEYS : WORD_TIME;
            if (token >= first && token <= last) {
                text.put(WORD, token);
            } else if (token == DIGITS && numbers[at] <= MOST_NUMBER) {
                text.put(NUMBER, numbers[at]);
            } else {
                return fail();
            }
            pass();
            return true;
        }

        private boolean readLookup(boolean isDegree) {
            pass();
            int most = isDegree ? MOST_VERTICES - 1 : KEYS - 1;
            if (numbers[at] < 0 || numbers[at] > most || lookups >= MOST_PIECES) {
                return fail();
            }
            lookupNumbers[lookups] = numbers[at];
            lookupIsDegree[lookups] = isDegree;
            text.put(WORD, FIRST_LOOKUP + lookups);
            lookups++;
            pass();
            return true;
        }

        private boolean isMark(char mark) {
            return tokens[at] == FIRST_MARK + mark;
        }

        private boolean passMark(char mark) {
            if (!isMark(mark)) {
                return fail();
            }
            pass();
            return true;
        }

        private void pass() {
            if (at < MOST_BYTES && tokens[at] != AT_END) {
                at++;
            }
        }

        private boolean fail() {
            fault = starts[at];
            return false;
        }
    }
}
