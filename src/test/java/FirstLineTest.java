import java.util.Arrays;
import java.util.Map;
import java.util.Set;
import java.util.TreeMap;
import java.util.TreeSet;

/**
 * The document's first paragraph, phrase by phrase, over many objects. What an answer must be is told from other
 * answers of the same object, so that nothing here knows how the class is made.
 */
public final class FirstLineTest {
    private static final Checks CHECKS = new Checks();
    private static final String[] LAWS = {"", "ranks 9 - vertex", "ranks degree * 10 + part", "ranks [vertex * 7 + seed] % 5",
        "ranks 50;ranks 3 if part = 1 and not vertex > 8;ranks 1 / [degree - 1]"};
    private static final int SETS = 60;
    private static int drawing = 1;

    public static void main(String[] args) {
        threeParts();
        for (int set = 0; set < SETS; set++) {
            peeledByALaw(anySet(set));
            goodSeeds(anySet(set), anySet(set));
            leastSide(anySet(set));
            if (build(anySet(set), anySet(set))) {
                ownVertices(built(set));
                packedFourToAByte(built(set));
                strangers(built(set));
            }
            whichKeyItIs(anySet(set));
        }
        keysNotTaken();
        whollyOrNotAtAll();
        soFewSlip();
        lawsCompared();
        takenBackAndGoneBackTo();
        CHECKS.finish("FirstLineTest");
    }

    private static void due(String call, long got, long want) {
        CHECKS.due(call, got, want);
    }

    private static int draw(int below) {
        drawing = (int) ((drawing * 48271L) % 2147483647L);
        return drawing % below;
    }

    /** The same for the same number. An object is used for 512 calls at most, so that each check has one of its own. */
    private static PeeledHash anySet(int set) {
        drawing = 7919 * (set + 1);
        PeeledHash x = new PeeledHash();
        String law = LAWS[set % LAWS.length];
        if (!law.isEmpty()) {
            due("law: " + law, Checks.law(x, law), 0);
            x.force(0);
        }
        int keys = set / 2;
        x.side(2 + Math.min(18, draw(4) + keys / 2));
        for (int i = 0; i < 200 && x.count(0) < keys; i++) {
            x.add(draw(1000));
        }
        x.seed(draw(256));
        return x;
    }

    private static PeeledHash built(int set) {
        PeeledHash x = anySet(set);
        x.build();
        return x;
    }

    private static void threeParts() {
        CHECKS.says("keys that are edges of a hypergraph of three parts");
        PeeledHash x = new PeeledHash();
        for (int turn = 0; turn < 80; turn++) {
            x.side(2 + draw(19));
            x.seed(draw(256));
            int side = x.count(1);
            int key = draw(1000);
            for (int part = 0; part < 3; part++) {
                due("the part of " + part + " of key " + key, x.key(key, 2 + part) / side, part);
            }
        }
    }

    private static TreeSet<Integer> keysOf(PeeledHash x) {
        TreeSet<Integer> keys = new TreeSet<>();
        for (int i = 0; i < x.count(0); i++) {
            keys.add(x.there(i));
        }
        return keys;
    }

    private static void peeledByALaw(PeeledHash x) {
        CHECKS.says("peeled vertex by vertex in an order told by a law till none is left, or a core");
        Map<Integer, Set<Integer>> left = new TreeMap<>();
        for (int key : keysOf(x)) {
            left.put(key, Set.of(x.key(key, 2), x.key(key, 3), x.key(key, 4)));
        }
        int[] ranks = new int[3 * x.count(1)];
        for (int vertex = 0; vertex < ranks.length; vertex++) {
            ranks[vertex] = x.vertex(vertex, 1);
        }
        int keys = left.size();
        for (int i = 0; i <= keys; i++) {
            int best = -1;
            for (int vertex = 0; vertex < ranks.length; vertex++) {
                int one = vertex;
                long having = left.values().stream().filter(three -> three.contains(one)).count();
                if (having == 1 && (best < 0 || ranks[vertex] < ranks[best])) {
                    best = vertex;
                }
            }
            due("peeled(" + i + ", 1)", x.peeled(i, 1), best);
            int key = x.peeled(i, 0);
            if (best < 0) {
                due("peeled(" + i + ", 0)", key, -1);
                break;
            }
            due("a key that is left and has the vertex leaves", left.getOrDefault(key, Set.of()).contains(best) ? 1 : 0, 1);
            left.remove(key);
        }
        due("core(" + x.count(2) + ")", x.core(x.count(2)), left.size());
    }

    private static void goodSeeds(PeeledHash x, PeeledHash y) {
        CHECKS.says("the core of any seed, what is peeled when, how many seeds are good");
        int good = 0;
        for (int seed = 0; seed < 256; seed++) {
            if (x.core(seed) == 0) {
                due("good(" + good + ")", y.good(good), seed);
                good++;
            }
        }
        due("good(-1)", y.good(-1), good);
        due("good(" + good + ")", y.good(good), -1);
    }

    private static void leastSide(PeeledHash x) {
        CHECKS.says("the least side");
        x.image(0);
        int least = -1;
        for (int side = 20; side >= 2; side--) {
            x.side(side);
            int first = x.good(0);
            least = first >= 0 && first <= 15 ? side : least;
        }
        x.back(0);
        due("leastSide()", x.leastSide(), least);
    }

    private static boolean build(PeeledHash x, PeeledHash y) {
        CHECKS.says("reseeded when a core is left");
        int seed = x.count(2);
        int tried = 0;
        while (tried < 256 && x.core((seed + tried) % 256) > 0) {
            tried++;
        }
        due("build()", y.build(), tried < 256 ? tried : -3);
        due("the seed then", y.count(2), tried < 256 ? (seed + tried) % 256 : seed);
        return tried < 256;
    }

    private static void ownVertices(PeeledHash x) {
        CHECKS.says("so that each key has a vertex of its own, by rank a dense number; a second table by which keys keep their"
                + " order");
        int keys = x.count(0);
        int[] own = new int[keys];
        int[] numbers = new int[keys];
        for (int i = 0; i < keys; i++) {
            int key = x.peeled(i, 0);
            own[i] = x.found(key, 0);
            numbers[i] = x.found(key, 1);
            // None of the laws here looks at the time: all rank as they did when it was built.
            due("the vertex that was free for key " + key + " is its own", own[i], x.peeled(i, 1));
        }
        int[] rising = own.clone();
        Arrays.sort(rising);
        due("own vertices", Arrays.stream(rising).distinct().count(), keys);
        for (int i = 0; i < keys; i++) {
            due("the number is the rank of vertex " + own[i], numbers[i], Arrays.binarySearch(rising, own[i]));
            due("place of the key no. " + i, x.found(x.there(i), 2), i);
        }
        due("table(2)", x.table(2), keys);
        due("table(3)", x.table(3), keys);
    }

    private static void packedFourToAByte(PeeledHash x) {
        CHECKS.says("solved backwards into small numbers packed four to a byte");
        int vertices = 3 * x.table(0);
        for (int vertex = 0; vertex < 60; vertex++) {
            int packed = x.table(64 + vertex / 4);
            int sign = x.table(4 + vertex);
            due("vertex " + vertex + " has a sign, if it is there", sign >= 0 && sign <= 3 ? 1 : 0, vertex < vertices ? 1 : 0);
            if (packed >= 0) {
                due("sign " + vertex + " of a byte", packed >> 2 * (vertex % 4) & 3, sign < 0 ? 3 : sign);
            } else {
                due("without a byte there is no vertex", sign, -1);
            }
        }
    }

    private static void strangers(PeeledHash x) {
        CHECKS.says("numbers of keys, clashes of strangers");
        Map<Integer, Integer> keys = new TreeMap<>();
        for (int key : keysOf(x)) {
            keys.put(x.found(key, 1), key);
        }
        for (int key = 0; key < 1000; key += 37) {
            boolean stranger = !keys.containsValue(key);
            due("twin(" + key + ")", x.twin(key), stranger ? keys.getOrDefault(x.found(key, 1), -1) : -1);
        }
    }

    private static void whichKeyItIs(PeeledHash x) {
        CHECKS.says("which key it is by its vertices, the vertex to ask for");
        if (x.count(0) == 0) {
            due("ask(0)", x.ask(0), -1);
            return;
        }
        int secret = x.there(draw(x.count(0)));
        int left = x.count(0);
        for (int turn = 0; turn < 6; turn++) {
            int vertex = x.ask(0);
            int most = x.ask(1);
            due("no more are left than there were", most <= left ? 1 : 0, 1);
            int is = x.key(secret, 2 + vertex / x.count(1)) == vertex ? 1 : 0;
            due("seen(" + vertex + ", " + is + ")", x.seen(vertex, is), turn + 1);
            left = x.canBe(-1);
            due("as few as ask(1) told are left", left <= most ? 1 : 0, 1);
            int found = 0;
            for (int i = 0; i < left; i++) {
                found += x.canBe(i) == secret ? 1 : 0;
            }
            due("it is among them", found, 1);
        }
        due("canBe(" + left + ")", x.canBe(left), -1);
        due("forget()", x.forget(), 6);
    }

    private static void keysNotTaken() {
        CHECKS.says("laws in a language of which vertex is peeled first, which key is not taken");
        PeeledHash x = new PeeledHash();
        Checks.law(x, "bars if key % 3 = 1 or time > 0");
        x.force(0);
        for (int key = 0; key < 12; key++) {
            due("key(" + key + ", 1)", x.key(key, 1), key % 3 == 1 ? 1 : 0);
            due("add(" + key + ")", x.add(key) > 0 ? 1 : 0, key % 3 == 1 ? 0 : 1);
        }
        x.side(9);
        due("build()", x.build() >= 0 ? 1 : 0, 1);
        due("none is taken then", x.add(21), -3);
        due("but without the law", x.force(-1) == 0 && x.add(21) == 9 ? 1 : 0, 1);
    }

    private static void whollyOrNotAtAll() {
        CHECKS.says("orders in a second language that are run wholly or not at all; keys added and taken away, seeds, sides, builds");
        PeeledHash x = Checks.with(5, 6);
        String all = "add 7;add 8 + done;take 5;side keys + 6;seed 40 times 1;build";
        due("not at all: a seventh can't be", Checks.orders(x, all + ";take 5"), -3);
        due("stopped()", x.stopped(), 6);
        int[] before = {2, 4, 0};
        for (int what = 0; what < 3; what++) {
            due("count(" + what + ")", x.count(what), before[what]);
        }
        due("table(0)", x.table(0), -1);
        due("count(5)", x.count(5), 2);
        due("wholly", Checks.orders(x, all), 6);
        int[] keys = {6, 7, 9};
        for (int i = 0; i < 3; i++) {
            due("there(" + i + ")", x.there(i), keys[i]);
        }
        due("side", x.count(1), 9);
        due("table(0)", x.table(0), 9);
        due("a build goes on from the seed", x.table(1) >= 40 ? 1 : 0, 1);
    }

    private static void soFewSlip() {
        CHECKS.says("how likely so few slip");
        for (int slips = 0; slips <= 10; slips++) {
            PeeledHash x = new PeeledHash();
            x.terms(1, slips);
            for (int n = 0; n <= 99; n += 11) {
                long before = 0;
                for (int k = 1; k <= 20; k++) {
                    long chance = x.few(k, n);
                    due("few(" + k + ", " + n + ") is a chance", chance >= before && chance <= 1000000000000L ? 1 : 0, 1);
                    // Each key cuts less than two parts off each of the counts below k.
                    due("few(" + k + ", " + n + ") of no more than can slip", k > n && chance < 1000000000000L - 40L * n ? 1 : 0, 0);
                    before = chance;
                }
            }
            due("few(1, 1): it does not", x.few(1, 1), (10L - slips) * 100000000000L);
        }
    }

    private static void lawsCompared() {
        CHECKS.says("a law compared with another one");
        PeeledHash x = Checks.with(3, 14, 159, 26, 535);
        for (int law = 1; law < LAWS.length; law++) {
            due("law()", Checks.law(x, LAWS[law]), law - 1);
        }
        for (int law = -1; law < LAWS.length - 1; law++) {
            for (int vertex = 0; vertex < 12; vertex++) {
                x.force(-1);
                int told = x.compare(law, vertex);
                due("none is in force then", x.vertex(vertex, 1), 0);
                x.force(law);
                due("compare(" + law + ", " + vertex + ")", told, x.vertex(vertex, 1));
            }
        }
    }

    /** Some ninety answers that tell all that stands. */
    private static String allOf(PeeledHash x) {
        StringBuilder all = new StringBuilder();
        int[] keys = {0, 1, 4, 9, 16, 17, 900, 999};
        for (int key : keys) {
            all.append(x.key(key, 0)).append(x.key(key, 1)).append(x.found(key, 2)).append(x.core(key % 256)).append(' ');
        }
        for (int vertex = 0; vertex <= 12; vertex++) {
            all.append(x.vertex(vertex, 0)).append(' ').append(x.vertex(vertex, 1)).append(' ').append(x.table(4 + vertex)).append(' ');
        }
        for (int what = 0; what < 3; what++) {
            all.append(x.table(what)).append(' ').append(x.count(13 + what)).append(' ').append(x.count(what)).append(' ');
        }
        return all.toString();
    }

    private static void takenBackAndGoneBackTo() {
        CHECKS.says("changes taken back, years by draws; all gone back to.");
        PeeledHash x = Checks.with(1, 4, 9, 16);
        x.build();
        String start = allOf(x);
        x.image(1);
        due("years(7, 60)", x.years(7, 60) >= 0 ? 1 : 0, 1);
        due("years are on paper", start.equals(allOf(x)) ? 1 : 0, 1);
        x.take(9);
        x.add(900);
        x.side(6);
        x.seed(99);
        x.build();
        int[] kinds = {4, 3, 2, 0, 1};
        for (int kind : kinds) {
            due("undo()", x.undo(), kind);
        }
        due("all taken back", start.equals(allOf(x)) ? 1 : 0, 1);
        Checks.law(x, "ranks 7;bars");
        x.force(0);
        x.terms(2, 5);
        x.take(1);
        x.side(20);
        x.build();
        due("something has changed", start.equals(allOf(x)) ? 1 : 0, 0);
        due("back(1)", x.back(1), 0);
        due("all gone back to", start.equals(allOf(x)) ? 1 : 0, 1);
        due("count(4)", x.count(4), 0);
        due("count(12)", x.count(12), -1);
        due("count(15)", x.count(15), 0);
    }
}
