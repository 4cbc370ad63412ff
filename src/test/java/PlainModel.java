import java.util.ArrayList;
import java.util.Arrays;
import java.util.HashMap;
import java.util.List;
import java.util.Map;
import java.util.TreeMap;
import java.util.TreeSet;
import java.util.function.ToLongFunction;

/**
 * The document once more, in the plainest way and with all of Java's library, so that random runs of calls can be
 * held against it. It shares no code and no form with the program: trees in place of steps, whole copies in place of
 * rings, exceptions for faults and broken sums.
 */
final class PlainModel {
    static final class Fault extends RuntimeException {
        final int place;

        Fault(int place) {
            this.place = place;
        }
    }

    static final class Broken extends RuntimeException {
    }

    interface Sum {
        long of(ToLongFunction<String> words);
    }

    interface Test {
        boolean of(ToLongFunction<String> words);
    }

    record Clause(String verb, Sum sum, int times, Test test) {
    }

    record Table(int side, int seed, TreeSet<Integer> keys, int[] signs, int[] steps) {
        int own(int key) {
            int together = 0;
            for (int j = 0; j < 3; j++) {
                together += signs[corner(key, j, seed, side)];
            }
            return corner(key, together % 3, seed, side);
        }

        int number(int key) {
            return (int) Arrays.stream(signs, 0, own(key)).filter(sign -> sign != 3).count();
        }

        int place(int key) {
            int together = 0;
            for (int j = 0; j < 3; j++) {
                together += steps[corner(key, j, seed, side)];
            }
            return keys.isEmpty() ? 0 : together % keys.size();
        }
    }

    static final class World {
        TreeSet<Integer> keys = new TreeSet<>();
        int side = 4;
        int seed = 0;
        int time = 0;
        int slips = 1;
        int mood = 0;
        Table table = null;
        List<int[]> seen = new ArrayList<>();
        List<List<Clause>> laws = new ArrayList<>();
        int force = -1;

        World copy() {
            World w = new World();
            w.keys = new TreeSet<>(keys);
            w.side = side;
            w.seed = seed;
            w.time = time;
            w.slips = slips;
            w.mood = mood;
            w.table = table;
            w.seen = new ArrayList<>(seen);
            w.laws = new ArrayList<>(laws);
            w.force = force;
            return w;
        }
    }

    record Undo(int kind, World before) {
    }

    World w = new World();
    List<Undo> undos = new ArrayList<>();
    World[] images = new World[2];
    List<Integer> tape = new ArrayList<>();
    int fault = -1;
    int stopped = -1;
    int blanks = 0;
    int status = 0;
    World grown = null;
    Map<Integer, Integer> refusals = new HashMap<>();

    static int corner(int key, int j, int seed, int side) {
        return j * side + (key * (j * 114 + 377) + seed * (j * 50 + 101) + j * 5) % 1009 % side;
    }

    static boolean touches(int key, int vertex, int seed, int side) {
        return vertex == corner(key, 0, seed, side) || vertex == corner(key, 1, seed, side)
                || vertex == corner(key, 2, seed, side);
    }

    static int degree(World w, int vertex, int seed) {
        return (int) w.keys.stream().filter(k -> touches(k, vertex, seed, w.side)).count();
    }

    int refuse(int by) {
        status = by;
        refusals.merge(by, 1, Integer::sum);
        return by;
    }

    int accept(int answer) {
        status = 0;
        return answer;
    }

    // ---- laws

    static List<Clause> inForce(World w) {
        return w.force < 0 ? List.of() : w.laws.get(w.force);
    }

    static ToLongFunction<String> lawWords(World w, int vertex, int part, int degree, int key, int seed) {
        Map<String, Integer> words = Map.of("vertex", vertex, "part", part, "degree", degree, "key", key, "seed",
                seed, "time", w.time, "mood", w.mood);
        return words::get;
    }

    static int rank(World w, List<Clause> law, int vertex, int seed) {
        ToLongFunction<String> words = lawWords(w, vertex, vertex / w.side, degree(w, vertex, seed), -1, seed);
        long rank = 0;
        for (Clause clause : law) {
            if (clause.verb.equals("ranks")) {
                try {
                    if (clause.test == null || clause.test.of(words)) {
                        rank = Math.min(99, Math.max(0, clause.sum.of(words)));
                    }
                } catch (Broken broken) {
                    // Such a clause does not hold.
                }
            }
        }
        return (int) rank;
    }

    static boolean barred(World w, int key) {
        ToLongFunction<String> words = lawWords(w, -1, -1, -1, key, w.seed);
        for (Clause clause : inForce(w)) {
            if (clause.verb.equals("bars")) {
                try {
                    if (clause.test == null || clause.test.of(words)) {
                        return true;
                    }
                } catch (Broken broken) {
                    // Such a clause does not hold.
                }
            }
        }
        return false;
    }

    // ---- peeling

    /** Pairs of a key and its free vertex, as they leave. */
    static List<int[]> peel(World w, int seed, int side, boolean ranked) {
        Map<Integer, Integer> ranks = new TreeMap<>();
        for (int v = 0; v < 3 * side; v++) {
            ranks.put(v, ranked ? rank(w, inForce(w), v, seed) : 0);
        }
        TreeSet<Integer> left = new TreeSet<>(w.keys);
        List<int[]> leaving = new ArrayList<>();
        while (true) {
            int best = -1;
            int whose = -1;
            for (int v = 0; v < 3 * side; v++) {
                final int vertex = v;
                List<Integer> having = left.stream().filter(k -> touches(k, vertex, seed, side)).toList();
                if (having.size() == 1 && (best < 0 || ranks.get(v) < ranks.get(best))) {
                    best = v;
                    whose = having.get(0);
                }
            }
            if (best < 0) {
                return leaving;
            }
            left.remove(whose);
            leaving.add(new int[] {whose, best});
        }
    }

    /** The core by itself: whatever has a vertex alone goes, all at once, till nothing goes. */
    static int core(World w, int seed, int side) {
        TreeSet<Integer> left = new TreeSet<>(w.keys);
        int before = -1;
        while (before != left.size()) {
            before = left.size();
            int[] degrees = new int[3 * side];
            for (int k : left) {
                for (int j = 0; j < 3; j++) {
                    degrees[corner(k, j, seed, side)]++;
                }
            }
            left.removeIf(k -> degrees[corner(k, 0, seed, side)] == 1 || degrees[corner(k, 1, seed, side)] == 1
                    || degrees[corner(k, 2, seed, side)] == 1);
        }
        return left.size();
    }

    // ---- changes

    int change(World w, int kind, long value) {
        switch (kind) {
            case 0:
                if (value < 0 || value > 999) {
                    return -1;
                }
                if (w.keys.contains((int) value) || barred(w, (int) value)) {
                    return -3;
                }
                if (w.keys.size() == 30) {
                    return -5;
                }
                w.keys.add((int) value);
                return w.keys.size();
            case 1:
                if (value < 0 || value > 999) {
                    return -1;
                }
                return w.keys.remove((int) value) ? w.keys.size() : -3;
            case 2: {
                if (value < 2 || value > 20) {
                    return -1;
                }
                int was = w.side;
                w.side = (int) value;
                return was == value ? -3 : was;
            }
            case 3: {
                if (value < 0 || value > 255) {
                    return -1;
                }
                int was = w.seed;
                w.seed = (int) value;
                return was == value ? -3 : was;
            }
            default:
                return build(w);
        }
    }

    static int build(World w) {
        for (int tried = 0; tried < 256; tried++) {
            int seed = (w.seed + tried) % 256;
            if (core(w, seed, w.side) > 0) {
                continue;
            }
            List<int[]> leaving = peel(w, seed, w.side, true);
            int[] signs = new int[3 * w.side];
            int[] steps = new int[3 * w.side];
            Arrays.fill(signs, 3);
            for (int i = leaving.size() - 1; i >= 0; i--) {
                int key = leaving.get(i)[0];
                int free = leaving.get(i)[1];
                for (int sign = 0; sign < 3; sign++) {
                    signs[free] = sign;
                    if (together(signs, key, seed, w.side) % 3 == free / w.side) {
                        break;
                    }
                }
                for (int step = 0; step < w.keys.size(); step++) {
                    steps[free] = step;
                    if (together(steps, key, seed, w.side) % w.keys.size() == w.keys.headSet(key).size()) {
                        break;
                    }
                }
            }
            w.seed = seed;
            w.table = new Table(w.side, seed, new TreeSet<>(w.keys), signs, steps);
            w.time = Math.min(999, w.time + 1);
            return tried;
        }
        return -3;
    }

    static int together(int[] row, int key, int seed, int side) {
        return row[corner(key, 0, seed, side)] + row[corner(key, 1, seed, side)] + row[corner(key, 2, seed, side)];
    }

    int changeByCall(int kind, int value) {
        World before = w.copy();
        int answer = change(w, kind, value);
        if (answer < 0) {
            w = before;
            return refuse(answer);
        }
        remember(new Undo(kind, before));
        return accept(answer);
    }

    void remember(Undo undo) {
        undos.add(undo);
        if (undos.size() > 16) {
            undos.remove(0);
        }
    }

    // ---- texts

    record Token(String text, int place) {
    }

    static final class Parser {
        final List<Token> tokens = new ArrayList<>();
        final boolean orders;
        int at = 0;
        int pieces = 0;
        int open = 0;

        Parser(List<Integer> tape, boolean orders) {
            this.orders = orders;
            for (int i = 0; i < tape.size();) {
                int from = i;
                StringBuilder text = new StringBuilder();
                if (isLetter(tape.get(i))) {
                    while (i < tape.size() && isLetter(tape.get(i))) {
                        text.append((char) (int) tape.get(i++));
                    }
                } else if (isDigit(tape.get(i))) {
                    while (i < tape.size() && isDigit(tape.get(i))) {
                        text.append((char) (int) tape.get(i++));
                    }
                } else {
                    text.append((char) (int) tape.get(i++));
                }
                if (!text.toString().equals(" ")) {
                    tokens.add(new Token(text.toString(), from));
                }
            }
            tokens.add(new Token("", tape.size()));
        }

        static boolean isLetter(int sign) {
            return "abcdefghijklmnopqrstuvwxyz".indexOf(sign) >= 0;
        }

        static boolean isDigit(int sign) {
            return "0123456789".indexOf(sign) >= 0;
        }

        String look() {
            return tokens.get(at).text;
        }

        Fault here() {
            return new Fault(tokens.get(at).place);
        }

        String oneOf(String... texts) {
            for (String text : texts) {
                if (look().equals(text)) {
                    at++;
                    return text;
                }
            }
            throw here();
        }

        boolean maybe(String text) {
            if (look().equals(text)) {
                at++;
                return true;
            }
            return false;
        }

        int number(int least, int most) {
            String text = look();
            if (text.isEmpty() || !isDigit(text.charAt(0))) {
                throw here();
            }
            java.math.BigInteger value = new java.math.BigInteger(text);
            if (value.compareTo(java.math.BigInteger.valueOf(least)) < 0
                    || value.compareTo(java.math.BigInteger.valueOf(most)) > 0) {
                throw here();
            }
            at++;
            return value.intValue();
        }

        List<Clause> whole() {
            List<Clause> clauses = new ArrayList<>();
            do {
                if (clauses.size() == 12) {
                    throw here();
                }
                clauses.add(clause());
            } while (!look().isEmpty() && !oneOf(";").isEmpty());
            return clauses;
        }

        Clause clause() {
            String verb = orders ? oneOf("add", "take", "side", "seed", "build") : oneOf("ranks", "bars");
            Sum sum = verb.equals("bars") || verb.equals("build") ? null : sum();
            int times = orders && maybe("times") ? number(1, 20) : 1;
            Test test = maybe("if") ? test() : null;
            return new Clause(verb, sum, times, test);
        }

        Test test() {
            Test left = both();
            while (maybe("or")) {
                Test ahead = left;
                Test behind = both();
                left = words -> ahead.of(words) || behind.of(words);
            }
            return left;
        }

        Test both() {
            Test left = plain();
            while (maybe("and")) {
                Test ahead = left;
                Test behind = plain();
                left = words -> ahead.of(words) && behind.of(words);
            }
            return left;
        }

        Test plain() {
            if (maybe("not")) {
                Test inner = plain();
                return words -> !inner.of(words);
            }
            if (look().equals("(")) {
                opened();
                Test inner = test();
                oneOf(")");
                open--;
                return inner;
            }
            Sum left = sum();
            String sign = oneOf("<", ">", "=");
            Sum right = sum();
            return words -> {
                int order = Long.compare(left.of(words), right.of(words));
                return sign.equals("<") ? order < 0 : sign.equals(">") ? order > 0 : order == 0;
            };
        }

        void opened() {
            if (open == 8) {
                throw here();
            }
            open++;
            at++;
        }

        Sum sum() {
            Sum left = term();
            while (look().equals("+") || look().equals("-")) {
                left = joined(left, oneOf("+", "-"), term());
            }
            return left;
        }

        Sum term() {
            Sum left = piece();
            while (look().equals("*") || look().equals("/") || look().equals("%")) {
                left = joined(left, oneOf("*", "/", "%"), piece());
            }
            return left;
        }

        static Sum joined(Sum left, String sign, Sum right) {
            return words -> {
                long a = left.of(words);
                long b = right.of(words);
                if (b == 0 && (sign.equals("/") || sign.equals("%"))) {
                    throw new Broken();
                }
                long value = switch (sign) {
                    case "+" -> a + b;
                    case "-" -> a - b;
                    case "*" -> a * b;
                    case "/" -> a / b;
                    default -> a % b;
                };
                if (Math.abs(value) > 1_000_000_000L) {
                    throw new Broken();
                }
                return value;
            };
        }

        Sum piece() {
            if (look().equals("[")) {
                opened();
                Sum inner = sum();
                oneOf("]");
                open--;
                return inner;
            }
            if (++pieces > 50) {
                throw here();
            }
            if (!look().isEmpty() && isDigit(look().charAt(0))) {
                long value = number(0, 1000);
                return words -> value;
            }
            String word = orders ? oneOf("time", "done", "latest", "keys", "degree", "number")
                    : oneOf("vertex", "part", "degree", "key", "seed", "time", "mood");
            if (orders && word.equals("degree")) {
                String asked = "degree " + number(0, 59);
                return words -> words.applyAsLong(asked);
            }
            if (orders && word.equals("number")) {
                String asked = "number " + number(0, 999);
                return words -> words.applyAsLong(asked);
            }
            return words -> words.applyAsLong(word);
        }
    }

    List<Clause> read(boolean orders) {
        List<Integer> text = new ArrayList<>(tape);
        tape.clear();
        fault = -1;
        try {
            return new Parser(text, orders).whole();
        } catch (Fault found) {
            fault = found.place;
            return null;
        }
    }

    // ---- the face

    int key(int key, int what) {
        if (key < 0 || key > 999 || what < 0 || what > 4) {
            return -1;
        }
        return what == 0 ? (w.keys.contains(key) ? 1 : 0)
                : what == 1 ? (barred(w, key) ? 1 : 0) : corner(key, what - 2, w.seed, w.side);
    }

    int vertex(int vertex, int what) {
        if (vertex < 0 || vertex >= 3 * w.side || what < 0 || what > 1) {
            return -1;
        }
        return what == 0 ? degree(w, vertex, w.seed) : rank(w, inForce(w), vertex, w.seed);
    }

    static int pick(List<Integer> list, int i) {
        return i >= 0 && i < list.size() ? list.get(i) : -1;
    }

    int there(int i) {
        return pick(new ArrayList<>(w.keys), i);
    }

    int ceiling(int key) {
        Integer found = w.keys.ceiling(key);
        return found == null ? -1 : found;
    }

    int terms(int what, int value) {
        int[] most = {999, 10, 9};
        if (what < 0 || what > 2 || value < 0 || value > most[what]) {
            return refuse(-1);
        }
        int was = what == 0 ? w.time : what == 1 ? w.slips : w.mood;
        if (what == 0) {
            w.time = value;
        } else if (what == 1) {
            w.slips = value;
        } else {
            w.mood = value;
        }
        undos.clear();
        return accept(was);
    }

    int feed(int a, int b, int c, int d, int e) {
        if (tape.size() > 380) {
            return -1;
        }
        for (int number : new int[] {a, b, c, d, e}) {
            for (byte one : java.nio.ByteBuffer.allocate(4).putInt(number).array()) {
                tape.add(Byte.toUnsignedInt(one));
            }
        }
        return tape.size();
    }

    int end(int n) {
        if (n < 0 || n > tape.size()) {
            return -1;
        }
        tape = new ArrayList<>(tape.subList(0, n));
        return n;
    }

    int row() {
        if (tape.isEmpty()) {
            return refuse(-6);
        }
        int added = 0;
        blanks = 0;
        while (!tape.isEmpty()) {
            int first = tape.remove(0);
            int key = tape.isEmpty() ? -1 : first * 4 + tape.remove(0);
            if (change(w, 0, key) < 0) {
                blanks++;
            } else {
                added++;
            }
        }
        undos.clear();
        return accept(added);
    }

    int law() {
        if (w.laws.size() == 6) {
            tape.clear();
            return refuse(-5);
        }
        List<Clause> law = read(false);
        if (law == null) {
            return refuse(-6);
        }
        w.laws.add(law);
        return accept(w.laws.size() - 1);
    }

    int orders() {
        stopped = -1;
        List<Clause> clauses = read(true);
        if (clauses == null) {
            return refuse(-6);
        }
        World ahead = w.copy();
        List<Undo> undosAhead = new ArrayList<>(undos);
        int done = 0;
        int latest = -1;
        for (int i = 0; i < clauses.size(); i++) {
            Clause clause = clauses.get(i);
            for (int time = 0; time < clause.times; time++) {
                int kind = List.of("add", "take", "side", "seed", "build").indexOf(clause.verb);
                ToLongFunction<String> words = orderWords(done, latest);
                try {
                    if (clause.test != null && !clause.test.of(words)) {
                        continue;
                    }
                } catch (Broken broken) {
                    continue;
                }
                int answer;
                World before = w.copy();
                try {
                    answer = change(w, kind, clause.sum == null ? 0 : clause.sum.of(words));
                } catch (Broken broken) {
                    answer = -3;
                }
                if (answer < 0) {
                    w = ahead;
                    undos = undosAhead;
                    stopped = i;
                    return refuse(-3);
                }
                remember(new Undo(kind, before));
                done++;
                latest = kind == 4 ? answer : latest;
            }
        }
        return accept(done);
    }

    ToLongFunction<String> orderWords(int done, int latest) {
        return word -> {
            if (word.startsWith("degree ")) {
                int v = Integer.parseInt(word.substring(7));
                return v < 3 * w.side ? degree(w, v, w.seed) : -1;
            }
            if (word.startsWith("number ")) {
                return w.table == null ? -1 : w.table.number(Integer.parseInt(word.substring(7)));
            }
            return switch (word) {
                case "time" -> w.time;
                case "done" -> done;
                case "latest" -> latest;
                default -> w.keys.size();
            };
        };
    }

    int force(int law) {
        if (law < -1 || law >= w.laws.size()) {
            return refuse(-2);
        }
        int was = w.force;
        w.force = law;
        return accept(was);
    }

    int undo() {
        if (undos.isEmpty()) {
            return refuse(-3);
        }
        Undo undo = undos.remove(undos.size() - 1);
        w.keys = undo.before.keys;
        w.side = undo.before.side;
        w.seed = undo.before.seed;
        w.table = undo.before.table;
        w.time = undo.before.time;
        return accept(undo.kind);
    }

    int core(int seed) {
        return seed < 0 || seed > 255 ? -1 : core(w, seed, w.side);
    }

    int peeled(int i, int what) {
        List<int[]> leaving = peel(w, w.seed, w.side, true);
        return i < 0 || i >= leaving.size() || what < 0 || what > 1 ? -1 : leaving.get(i)[what];
    }

    int good(int i) {
        List<Integer> seeds = new ArrayList<>();
        for (int seed = 0; seed < 256; seed++) {
            if (core(w, seed, w.side) == 0) {
                seeds.add(seed);
            }
        }
        return i == -1 ? seeds.size() : pick(seeds, i);
    }

    int leastSide() {
        for (int side = 2; side <= 20; side++) {
            for (int seed = 0; seed < 16; seed++) {
                if (core(w, seed, side) == 0) {
                    return side;
                }
            }
        }
        return -1;
    }

    int found(int key, int what) {
        if (w.table == null || key < 0 || key > 999 || what < 0 || what > 2) {
            return -1;
        }
        return what == 0 ? w.table.own(key) : what == 1 ? w.table.number(key) : w.table.place(key);
    }

    int table(int what) {
        if (w.table == null || what < 0) {
            return -1;
        }
        int[] signs = w.table.signs;
        if (what < 4) {
            return what == 0 ? w.table.side : what == 1 ? w.table.seed : what == 2 ? w.table.keys.size()
                    : (int) Arrays.stream(signs).filter(sign -> sign != 3).count();
        }
        if (what < 64) {
            return what - 4 < signs.length ? signs[what - 4] : -1;
        }
        long first = 4L * (what - 64L);
        if (first >= signs.length) {
            return -1;
        }
        int weight = 1;
        int packed = 0;
        for (int v = (int) first; v < first + 4; v++) {
            packed += weight * (v < signs.length ? signs[v] : 3);
            weight *= 4;
        }
        return packed;
    }

    int twin(int key) {
        if (w.table == null || key < 0 || key > 999 || w.table.keys.contains(key)) {
            return -1;
        }
        return w.table.keys.stream().filter(k -> w.table.number(k) == w.table.number(key)).findFirst().orElse(-1);
    }

    int seen(int vertex, int is) {
        if (vertex < 0 || vertex > 59 || is < 0 || is > 1) {
            return refuse(-1);
        }
        if (w.seen.size() == 6) {
            return refuse(-5);
        }
        w.seen.add(new int[] {vertex, is});
        return accept(w.seen.size());
    }

    int forget() {
        int was = w.seen.size();
        w.seen.clear();
        return was;
    }

    List<Integer> possible() {
        return w.keys.stream().filter(k -> w.seen.stream()
                .allMatch(s -> touches(k, s[0], w.seed, w.side) == (s[1] == 1))).toList();
    }

    int canBe(int i) {
        return i == -1 ? possible().size() : pick(possible(), i);
    }

    int ask(int what) {
        List<Integer> keys = possible();
        if (keys.isEmpty() || what < 0 || what > 1) {
            return -1;
        }
        int[] best = {-1, 1000};
        for (int v = 0; v < 3 * w.side; v++) {
            final int vertex = v;
            int having = (int) keys.stream().filter(k -> touches(k, vertex, w.seed, w.side)).count();
            int more = Math.max(having, keys.size() - having);
            if (more < best[1]) {
                best = new int[] {v, more};
            }
        }
        return best[what];
    }

    long few(int k, int n) {
        if (k < 1 || k > 20 || n < 0 || n > 99) {
            return -1;
        }
        long[] parts = new long[101];
        parts[0] = 1_000_000_000_000L;
        for (int key = 0; key < n; key++) {
            long[] next = new long[101];
            for (int did = 0; did < 100; did++) {
                next[did] += parts[did] * (10 - w.slips) / 10;
                next[did + 1] += parts[did] * w.slips / 10;
            }
            parts = next;
        }
        return Arrays.stream(parts, 0, k).sum();
    }

    int compare(int law, int vertex) {
        if (law < -1 || law >= w.laws.size() || vertex < 0 || vertex >= 3 * w.side) {
            return -1;
        }
        return rank(w, law == -1 ? List.of() : w.laws.get(law), vertex, w.seed);
    }

    int years(int sowing, int n) {
        if (sowing < 0 || sowing > 1_000_000 || n < 1 || n > 60) {
            return refuse(-1);
        }
        World paper = w.copy();
        long s = sowing;
        for (int year = 0; year < n; year++) {
            s = (s * 1103 + 12345) % 1_000_003;
            int key = (int) (s % 40);
            s = (s * 1103 + 12345) % 1_000_003;
            int deed = (int) (s % 8);
            change(paper, deed <= 4 ? 0 : deed == 5 ? 1 : 4, key);
        }
        grown = paper;
        return accept(paper.keys.size());
    }

    int drawn(int k) {
        return grown == null || grown.table == null || k < 0 || k > 39 ? -1 : grown.table.number(k);
    }

    int image(int k) {
        if (k < 0 || k > 1) {
            return refuse(-1);
        }
        images[k] = w.copy();
        return accept(0);
    }

    int back(int k) {
        if (k < 0 || k > 1) {
            return refuse(-1);
        }
        if (images[k] == null) {
            return refuse(-2);
        }
        w = images[k].copy();
        undos.clear();
        return accept(0);
    }

    int count(int what) {
        return switch (what) {
            case 0 -> w.keys.size();
            case 1 -> w.side;
            case 2 -> w.seed;
            case 3 -> w.seen.size();
            case 4 -> w.laws.size();
            case 5 -> undos.size();
            case 6 -> tape.size();
            case 7 -> refusals.getOrDefault(-1, 0);
            case 8 -> refusals.getOrDefault(-2, 0);
            case 9 -> refusals.getOrDefault(-3, 0);
            case 10 -> refusals.getOrDefault(-5, 0);
            case 11 -> refusals.getOrDefault(-6, 0);
            case 12 -> w.force;
            case 13 -> w.time;
            case 14 -> w.slips;
            case 15 -> w.mood;
            default -> -1;
        };
    }
}
