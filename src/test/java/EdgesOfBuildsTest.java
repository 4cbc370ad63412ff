import java.math.BigInteger;
import java.util.Arrays;

/** The edges that Terms III of the document names: changes, peeling, builds, tables, and what is asked on paper. */
public final class EdgesOfBuildsTest {
    private static final Checks CHECKS = new Checks();

    public static void main(String[] args) {
        changes();
        alikeRanks();
        askedAhead();
        cores();
        buildsWithoutKeys();
        buildsGoRound();
        buildsThatCanNotBe();
        peeledByTheSeedThatIsGood();
        signsAndSteps();
        signsOfAll();
        stepsOfAll();
        time();
        anyKeyByTheTable();
        ownVertices();
        packed();
        goodSeeds();
        leastSide();
        twins();
        ceiling();
        itCanBe();
        asking();
        few();
        compared();
        CHECKS.finish("EdgesOfBuildsTest");
    }

    private static void due(String call, long got, long want) {
        CHECKS.due(call, got, want);
    }

    private static PeeledHash atSide(int side, int... keys) {
        PeeledHash x = Checks.with(keys);
        x.side(side);
        return x;
    }

    private static void changes() {
        CHECKS.says("To ADD: a KEY that is not THERE, not BARRED is THERE. To TAKE: a KEY that is THERE is not any more. SIDE, SEED:"
                + " another one.");
        PeeledHash x = new PeeledHash();
        due("take(5), not there", x.take(5), -3);
        due("add(5)", x.add(5), 1);
        due("add(5), there", x.add(5), -3);
        due("take(5)", x.take(5), 0);
        due("take(5), not there any more", x.take(5), -3);
        due("side(4), it is so", x.side(4), -3);
        due("side(5)", x.side(5), 4);
        due("side(5), it is so", x.side(5), -3);
        due("seed(0), it is so", x.seed(0), -3);
        due("seed(1)", x.seed(1), 0);
        due("seed(1), it is so", x.seed(1), -3);
        Checks.law(x, "bars if key = 5");
        x.force(0);
        due("add(5), barred", x.add(5), -3);
        due("add(6)", x.add(6), 1);
    }

    /** Keys 0: 0, 5, 10; 1: 1, 4, 11; 2: 2, 7, 11; 3: 2, 5, 8. */
    private static void alikeRanks() {
        CHECKS.says("again and again of VERTICES which just one KEY that is left has that which RANKS least (the lowest of alike"
                + " ones) is FREE for that KEY, which leaves.");
        int[][] lowest = {{0, 0}, {1, 1}, {3, 5}, {2, 2}};
        int[][] rising = {{0, 10}, {3, 8}, {2, 7}, {1, 11}};
        String[] alike = {"bars", "ranks 7", "ranks 0 - vertex", "ranks 99 + vertex", "ranks 110 - vertex", "ranks 1 / 0"};
        for (String law : alike) {
            leave(law, lowest);
        }
        leave("ranks 11 - vertex", rising);
        leave("ranks 99 - vertex", rising);
        // 11 has two keys at first, and waits; it ranks 98 and all others 99, so that it goes ahead once it has one.
        leave("ranks 109 - vertex", new int[][] {{0, 0}, {1, 1}, {2, 11}, {3, 2}});
    }

    private static void leave(String law, int[][] leaving) {
        PeeledHash x = Checks.with(0, 1, 2, 3);
        Checks.law(x, law);
        x.force(0);
        for (int i = 0; i < leaving.length; i++) {
            due("peeled(" + i + ", 0) by \"" + law + "\"", x.peeled(i, 0), leaving[i][0]);
            due("peeled(" + i + ", 1) by \"" + law + "\"", x.peeled(i, 1), leaving[i][1]);
        }
    }

    private static int signs(PeeledHash x) {
        return x.table(64) * 65536 + x.table(65) * 256 + x.table(66);
    }

    /** A table of keys 0 to 9 at side 4, by that law, built from that seed at that time; seed 7 is the one that is good. */
    private static int tableBy(String law, int seed, int time) {
        PeeledHash x = Checks.with(0, 1, 2, 3, 4, 5, 6, 7, 8, 9);
        x.terms(0, time);
        if (seed > 0) {
            x.seed(seed);
        }
        Checks.law(x, law);
        x.force(0);
        due("build()", x.build(), 7 - seed);
        return signs(x);
    }

    private static void askedAhead() {
        CHECKS.says("PEELED by a SEED: all VERTICES RANK (asked as all is ahead of it, seed, degree by that SEED)");
        int plain = tableBy("bars", 0, 0);
        int other = tableBy("ranks 50 - vertex", 0, 0);
        due("the law matters", plain == other ? 1 : 0, 0);
        due("seed: the one that is tried", tableBy("ranks 50 - vertex if seed = 7", 0, 0), other);
        due("seed: not the one ahead", tableBy("ranks 50 - vertex if seed = 0", 0, 0), plain);
        due("seed: not the one before it", tableBy("ranks 50 - vertex if seed = 6", 0, 0), plain);
        due("degree: by the seed that is tried", tableBy("ranks 9 * degree + 30 - vertex", 0, 0),
                tableBy("ranks 9 * degree + 30 - vertex", 7, 0));
        due("time: ahead of it", tableBy("ranks 50 - vertex if time = 998", 0, 998), other);
        due("time: not behind it", tableBy("ranks 50 - vertex if time = 999", 0, 998), plain);
        due("time: 999 stays", tableBy("ranks 50 - vertex if time = 999", 0, 999), other);
    }

    private static void cores() {
        CHECKS.says("The CORE: what is left at the end.");
        due("core(0) without keys", new PeeledHash().core(0), 0);
        due("core(0) of one", Checks.with(999).core(0), 0);
        PeeledHash all = atSide(2, 15, 16, 44, 45);
        due("core(0): all are left, none leaves", all.core(0), 4);
        due("peeled(0, 0): none leaves", all.peeled(0, 0), -1);
        due("peeled(0, 1): none leaves", all.peeled(0, 1), -1);
        PeeledHash most = Checks.with(0, 1, 2, 3, 4, 5, 6, 7, 8, 9);
        due("core(0): one leaves", most.core(0), 9);
        due("peeled(0, 0)", most.peeled(0, 0), 4);
        due("peeled(0, 1)", most.peeled(0, 1), 3);
        due("peeled(1, 0): not so many", most.peeled(1, 0), -1);
        PeeledHash none = Checks.with(0, 1, 2, 3);
        due("core(0): all leave", none.core(0), 0);
        due("peeled(3, 0)", none.peeled(3, 0), 2);
        due("peeled(4, 0): not so many", none.peeled(4, 0), -1);
    }

    private static void buildsWithoutKeys() {
        CHECKS.says("To BUILD (without KEYS, too)");
        for (int side = 2; side <= 20; side += 9) {
            PeeledHash x = new PeeledHash();
            x.side(side);
            x.seed(255);
            due("build()", x.build(), 0);
            due("table(0)", x.table(0), side);
            due("table(1)", x.table(1), 255);
            due("table(2)", x.table(2), 0);
            due("table(3)", x.table(3), 0);
            for (int v = 0; v < 3 * side; v++) {
                due("table(4 + " + v + ")", x.table(4 + v), 3);
            }
            due("count(13)", x.count(13), 1);
            due("found(999, 1)", x.found(999, 1), 0);
            due("found(999, 2)", x.found(999, 2), 0);
            due("undo()", x.undo(), 4);
            due("table(0)", x.table(0), -1);
        }
    }

    private static void built(PeeledHash x, int seed, int tried, int by) {
        if (seed != x.count(2)) {
            x.seed(seed);
        }
        due("build() from seed " + seed, x.build(), tried);
        due("count(2) from seed " + seed, x.count(2), by);
        due("table(1) from seed " + seed, x.table(1), by);
    }

    private static void buildsGoRound() {
        CHECKS.says("from SEED on, 255 and then 0 and so on, the first SEED by which the CORE is empty (if there is none, it can't"
                + " be, all stays) is SEED");
        // Seed 98 alone is good.
        PeeledHash x = atSide(3, 225, 237, 366, 412, 473, 539, 767);
        due("good(-1)", x.good(-1), 1);
        built(x, 98, 0, 98);
        built(x, 97, 1, 98);
        built(x, 99, 255, 98);
        built(x, 255, 99, 98);
        built(x, 0, 98, 98);
        // 254 and 255 are not good, 0 is.
        PeeledHash y = atSide(3, 90, 303, 428, 560, 747, 831, 978);
        built(y, 255, 1, 0);
        built(y, 254, 2, 0);
        built(y, 0, 0, 0);
        // 254 and 0 are not good, 255 is.
        PeeledHash z = atSide(3, 185, 328, 383, 399, 556, 571, 924);
        built(z, 254, 1, 255);
        built(z, 255, 0, 255);
    }

    private static void buildsThatCanNotBe() {
        PeeledHash x = Checks.with(0, 1, 2, 3);
        x.build();
        for (int key = 4; key <= 10; key++) {
            x.add(key);
        }
        x.seed(200);
        due("good(-1)", x.good(-1), 0);
        due("build()", x.build(), -3);
        due("count(0)", x.count(0), 11);
        due("count(1)", x.count(1), 4);
        due("count(2)", x.count(2), 200);
        due("count(5)", x.count(5), 13);
        due("count(13)", x.count(13), 1);
        due("table(1)", x.table(1), 0);
        due("table(2)", x.table(2), 4);
        due("table(64)", x.table(64), 194);
        due("undo()", x.undo(), 3);
        // More keys than vertices always leave a core; as many may do, or not.
        PeeledHash y = atSide(2, 0, 1, 2, 3, 4, 5, 6);
        due("seven keys of six vertices", y.build(), -3);
    }

    private static void peeledByTheSeedThatIsGood() {
        CHECKS.says("is SEED; all are PEELED by it; the TABLE is that of SIDE, SEED, of all KEYS that are THERE: all SIGNS 3");
        PeeledHash x = Checks.with(0, 1, 2, 3, 4, 5, 6, 7, 8, 9);
        Checks.law(x, "ranks [vertex * 7 + seed * 3] % 11 + degree");
        x.force(0);
        due("build()", x.build(), 7);
        int[] of = {4, 7, 10, 10};
        for (int what = 0; what < of.length; what++) {
            due("table(" + what + ")", x.table(what), of[what]);
        }
        due("count(2)", x.count(2), 7);
        for (int i = 0; i < 10; i++) {
            due("the free vertex of the " + i + "th that leaves by seed 7", x.found(x.peeled(i, 0), 0), x.peeled(i, 1));
        }
        // Keys 0 to 10 at side 5: seeds 18, 19, 20 leave a core, 21 leaves none.
        int[] upwards = ownVerticesBy("ranks 0");
        int[] downwards = ownVerticesBy("ranks 99 - vertex");
        due("the two laws peel otherwise", Arrays.equals(upwards, downwards) ? 1 : 0, 0);
        due("by the seed that is good", Arrays.equals(ownVerticesBy("ranks 99 - vertex if seed = 21"), downwards) ? 1 : 0, 1);
        due("not by the one ahead", Arrays.equals(ownVerticesBy("ranks 99 - vertex if seed = 18"), upwards) ? 1 : 0, 1);
        due("the time is that ahead", Arrays.equals(ownVerticesBy("ranks 99 - vertex if time = 0"), downwards) ? 1 : 0, 1);
    }

    private static int[] ownVerticesBy(String law) {
        PeeledHash x = atSide(5, 0, 1, 2, 3, 4, 5, 6, 7, 8, 9, 10);
        Checks.law(x, law);
        x.force(0);
        x.seed(18);
        due("build()", x.build(), 3);
        int[] own = new int[11];
        for (int key = 0; key < 11; key++) {
            own[key] = x.found(key, 0);
        }
        return own;
    }

    private static void signsAndSteps() {
        CHECKS.says("all SIGNS 3, all STEPS 0 at first");
        // One key, 0: vertices 0, 5, 10; 0 is free, its sign with 3 + 3 is 0.
        PeeledHash x = Checks.with(0);
        x.build();
        due("table(4)", x.table(4), 0);
        for (int v = 1; v < 12; v++) {
            due("table(4 + " + v + ")", x.table(4 + v), 3);
        }
        due("table(3)", x.table(3), 1);
        CHECKS.says("the STEP of that is the one (0 and more, below the number of KEYS) with which the STEPS of its three VERTICES"
                + " together, modulo the number of KEYS, are how many KEYS that are THERE are lower.");
        for (int key = 0; key < 100; key++) {
            due("found(" + key + ", 2) by a table of one", x.found(key, 2), 0);
        }
        PeeledHash two = Checks.with(999, 0);
        two.build();
        due("the lowest of two", two.found(0, 2), 0);
        due("the highest of two", two.found(999, 2), 1);
        PeeledHash many = new PeeledHash();
        many.side(20);
        for (int i = 0; i < 30; i++) {
            many.add(999 - 33 * i);
        }
        due("30 can be built", many.build() >= 0 ? 1 : 0, 1);
        due("table(2)", many.table(2), 30);
        for (int i = 0; i < 30; i++) {
            due("the place of the " + i + "th", many.found(many.there(i), 2), i);
        }
    }

    private static void signsOfAll() {
        CHECKS.says("then from the KEY that left last to the one that left first: the SIGN of its FREE VERTEX is that 0, 1 or 2 with"
                + " which the SIGNS of its three VERTICES together, modulo 3, are the PART of the FREE one");
        for (int side = 5; side <= 20; side += 5) {
            PeeledHash x = atSide(side, 10, 20, 30, 40, 50, 60, 70);
            due("build() can be", x.build() >= 0 ? 1 : 0, 1);
            for (int i = 0; i < 7; i++) {
                int key = x.peeled(i, 0);
                int free = x.peeled(i, 1);
                int together = 0;
                for (int j = 0; j < 3; j++) {
                    together += x.table(4 + x.key(key, 2 + j));
                }
                due("the free vertex of " + key, together % 3, free / side);
                due("its sign is not 3", x.table(4 + free) <= 2 ? 1 : 0, 1);
                due("it is the own vertex of " + key, x.found(key, 0), free);
            }
            due("all others are 3: table(3)", x.table(3), 7);
        }
    }

    private static void stepsOfAll() {
        CHECKS.says("the STEP of that is the one (0 and more, below the number of KEYS)");
        PeeledHash x = atSide(5, 10, 20, 30, 40, 50, 60, 70);
        x.build();
        stepsAre(x, 7);
        // A table that was built ahead leaves nothing in the next one.
        x.take(10);
        x.seed(200);
        x.build();
        stepsAre(x, 6);
        PeeledHash z = atSide(5, 20, 30, 40, 50, 60, 70);
        z.build();
        z.add(999);
        z.add(0);
        z.build();
        stepsAre(z, 8);
        PeeledHash y = Checks.with(0, 1, 2, 3);
        y.build();
        due("found(4, 2)", y.found(4, 2), 0);
        due("found(5, 2)", y.found(5, 2), 3);
    }

    /** The steps once more, by what is peeled; the places of strangers tell them. */
    private static void stepsAre(PeeledHash x, int keys) {
        due("table(2)", x.table(2), keys);
        int[] steps = new int[15];
        for (int i = keys - 1; i >= 0; i--) {
            int key = x.peeled(i, 0);
            int free = x.peeled(i, 1);
            int lower = 0;
            while (x.there(lower) < key) {
                lower++;
            }
            for (int j = 0; j < 3; j++) {
                lower -= x.key(key, 2 + j) == free ? 0 : steps[x.key(key, 2 + j)];
            }
            steps[free] = Math.floorMod(lower, keys);
        }
        for (int key = 0; key < 25; key++) {
            due("found(" + key + ", 2)", x.found(key, 2),
                    (steps[x.key(key, 2)] + steps[x.key(key, 3)] + steps[x.key(key, 4)]) % keys);
        }
    }

    private static void time() {
        CHECKS.says("The TIME is one more (999 stays).");
        PeeledHash x = new PeeledHash();
        x.build();
        due("from 0", x.count(13), 1);
        x.terms(0, 997);
        x.build();
        due("from 997", x.count(13), 998);
        x.build();
        due("from 998", x.count(13), 999);
        due("build()", x.build(), 0);
        due("from 999", x.count(13), 999);
        due("undo()", x.undo(), 4);
        due("999 was there ahead of it", x.count(13), 999);
        due("undo()", x.undo(), 4);
        due("998 was there ahead of it", x.count(13), 998);
    }

    private static void anyKeyByTheTable() {
        CHECKS.says("By the TABLE, whatever is THERE since, any KEY 0 .. 999, THERE or not, has an OWN VERTEX");
        for (int first = 0; first < 1000; first += 50) {
            PeeledHash x = atSide(5, 10, 20, 30, 40, 50, 60, 70);
            due("build() can be", x.build() >= 0 ? 1 : 0, 1);
            for (int key = first; key < first + 50; key++) {
                int own = x.found(key, 0);
                due("the own vertex of " + key, own >= 0 && own < 15 && x.key(key, 2 + own / 5) == own ? 1 : 0, 1);
                int number = x.found(key, 1);
                due("the number of " + key, number >= 0 && number <= 7 ? 1 : 0, 1);
                int place = x.found(key, 2);
                due("the place of " + key, place >= 0 && place < 7 ? 1 : 0, 1);
            }
        }
        PeeledHash x = Checks.with(0, 1, 2, 3);
        x.build();
        int[] before = {x.found(0, 0), x.found(999, 0), x.found(999, 1), x.found(999, 2)};
        for (int key = 0; key < 4; key++) {
            x.take(key);
        }
        x.side(20);
        x.seed(255);
        due("found(0, 0), none is there", x.found(0, 0), before[0]);
        due("found(999, 0)", x.found(999, 0), before[1]);
        due("found(999, 1)", x.found(999, 1), before[2]);
        due("found(999, 2)", x.found(999, 2), before[3]);
        due("found(-1, 0)", x.found(-1, 0), -1);
        due("found(1000, 0)", x.found(1000, 0), -1);
        CHECKS.says("a PLACE: its three STEPS together, modulo the number of KEYS of the TABLE (0, if there were none).");
        PeeledHash none = new PeeledHash();
        none.build();
        due("found(0, 2)", none.found(0, 2), 0);
        due("found(999, 2)", none.found(999, 2), 0);
        none.add(5);
        due("found(5, 2), there since", none.found(5, 2), 0);
    }

    private static void ownVertices() {
        CHECKS.says("of its three by the TABLE's SEED and SIDE that in the PART which their SIGNS together, modulo 3, are; a NUMBER: how"
                + " many VERTICES below that have a SIGN that is not 3;");
        for (int first = 0; first < 1000; first += 50) {
            PeeledHash x = atSide(5, 10, 20, 30, 40, 50, 60, 70);
            x.build();
            int[] signs = new int[15];
            for (int v = 0; v < 15; v++) {
                signs[v] = x.table(4 + v);
            }
            for (int key = first; key < first + 50; key++) {
                int[] vertices = {x.key(key, 2), x.key(key, 3), x.key(key, 4)};
                int own = vertices[(signs[vertices[0]] + signs[vertices[1]] + signs[vertices[2]]) % 3];
                int below = 0;
                for (int v = 0; v < own; v++) {
                    below += signs[v] == 3 ? 0 : 1;
                }
                due("found(" + key + ", 0)", x.found(key, 0), own);
                due("found(" + key + ", 1)", x.found(key, 1), below);
            }
        }
    }

    private static void packed() {
        CHECKS.says("PACKED: BYTE i has the SIGNS of VERTICES 4 times i and the three behind, the first one once, the second one 4 times,"
                + " the third one 16 times, the last one 64 times");
        CHECKS.says("(3, where there is no VERTEX); there are as many BYTES as have a VERTEX of the TABLE's SIDE.");
        for (int side = 2; side <= 20; side++) {
            PeeledHash x = atSide(side, 5, 900);
            due("build() can be at side " + side, x.build() >= 0 ? 1 : 0, 1);
            int bytes = (3 * side + 3) / 4;
            for (int i = 0; i < 15; i++) {
                int packed = 0;
                int[] times = {1, 4, 16, 64};
                for (int j = 0; j < 4; j++) {
                    packed += times[j] * (4 * i + j < 3 * side ? x.table(4 + 4 * i + j) : 3);
                }
                due("byte " + i + " at side " + side, x.table(64 + i), i < bytes ? packed : -1);
            }
            due("sign of the last vertex at side " + side, x.table(4 + 3 * side - 1) >= 0 ? 1 : 0, 1);
            due("sign behind the last vertex at side " + side, side == 20 ? -1 : x.table(4 + 3 * side), -1);
            due("byte 15 at side " + side, x.table(64 + 15), -1);
        }
    }

    private static void goodSeeds() {
        CHECKS.says("GOOD SEEDS: those of 0 .. 255 by which (and SIDE) the CORE is empty.");
        PeeledHash all = Checks.with(0, 1, 2, 3);
        due("good(-1): all", all.good(-1), 256);
        due("good(0)", all.good(0), 0);
        due("good(255)", all.good(255), 255);
        due("good(256)", all.good(256), -1);
        PeeledHash none = Checks.with(0, 1, 2, 3, 4, 5, 6, 7, 8, 9, 10);
        due("good(-1): none", none.good(-1), 0);
        due("good(0)", none.good(0), -1);
        none.side(5);
        due("good(-1) by another side", none.good(-1), 128);
        due("good(127)", none.good(127) >= 0 ? 1 : 0, 1);
        due("good(128)", none.good(128), -1);
        PeeledHash last = atSide(3, 185, 328, 383, 399, 556, 571, 924);
        int many = last.good(-1);
        due("the last is 255", last.good(many - 1), 255);
        due("behind the last", last.good(many), -1);
        PeeledHash first = atSide(3, 90, 303, 428, 560, 747, 831, 978);
        due("the first is 0", first.good(0), 0);
    }

    private static void leastSide() {
        CHECKS.says("The LEAST SIDE: the least of 2 .. 20 by which one of SEEDS 0 .. 15 would leave none (RANKS aside; without KEYS"
                + " 2).");
        due("without keys", new PeeledHash().leastSide(), 2);
        due("of one", Checks.with(999).leastSide(), 2);
        due("by seed 0 alone", Checks.with(106, 129, 382, 412, 484, 725, 762).leastSide(), 3);
        due("by seed 15 alone", Checks.with(126, 213, 322, 409, 477, 521).leastSide(), 3);
        due("not by seed 16", Checks.with(133, 151, 199, 262, 417, 421).leastSide(), 4);
        PeeledHash y = Checks.with(48, 50, 117, 182, 220, 255, 257, 327, 467, 489, 498, 502, 537, 570, 586, 615, 639,
                686, 731, 753, 782, 807, 817, 847, 852, 885, 920, 954, 977, 984);
        due("by none", y.leastSide(), -1);
        y.take(920);
        due("by 20", y.leastSide(), 20);
        Checks.law(y, "ranks 99 - vertex;bars");
        y.force(0);
        due("ranks aside", y.leastSide(), 20);
    }

    private static void twins() {
        CHECKS.says("A STRANGER's TWIN: the KEY that was THERE when the TABLE was BUILT and has the NUMBER that a KEY which was not"
                + " has.");
        PeeledHash x = Checks.with(0, 1, 2, 3);
        x.build();
        due("number 3 of four: twin(4)", x.twin(4), 3);
        due("number 4 of four: twin(5)", x.twin(5), -1);
        for (int key = 0; key < 4; key++) {
            due("it was there: twin(" + key + ")", x.twin(key), -1);
        }
        x.take(3);
        due("it was there, though it is not any more: twin(3)", x.twin(3), -1);
        due("the key was there, though it is not any more: twin(4)", x.twin(4), 3);
        x.add(4);
        due("it is there since: twin(4)", x.twin(4), 3);
        due("twin(-1)", x.twin(-1), -1);
        due("twin(1000)", x.twin(1000), -1);
        due("twin(999)", x.twin(999) >= 0 || x.found(999, 1) == 4 ? 1 : 0, 1);
        PeeledHash none = new PeeledHash();
        due("no table: twin(5)", none.twin(5), -1);
        none.build();
        due("a table of none: twin(5)", none.twin(5), -1);
    }

    private static void ceiling() {
        CHECKS.says("CEILING of any number: the least KEY that is THERE and not below it.");
        PeeledHash x = Checks.with(10, 20);
        due("ceiling(MIN)", x.ceiling(Integer.MIN_VALUE), 10);
        due("ceiling(-1)", x.ceiling(-1), 10);
        due("ceiling(9)", x.ceiling(9), 10);
        due("ceiling(10)", x.ceiling(10), 10);
        due("ceiling(11)", x.ceiling(11), 20);
        due("ceiling(20)", x.ceiling(20), 20);
        due("ceiling(21)", x.ceiling(21), -1);
        due("ceiling(1000)", x.ceiling(1000), -1);
        due("ceiling(MAX)", x.ceiling(Integer.MAX_VALUE), -1);
        due("ceiling(0) without keys", new PeeledHash().ceiling(0), -1);
        PeeledHash ends = Checks.with(0, 999);
        due("ceiling(0)", ends.ceiling(0), 0);
        due("ceiling(1)", ends.ceiling(1), 999);
        due("ceiling(999)", ends.ceiling(999), 999);
    }

    private static void itCanBe() {
        CHECKS.says("IT CAN BE: KEYS that are THERE of which all that was SEEN is so by SEED and SIDE as they are now (a VERTEX that"
                + " is not there no KEY has).");
        PeeledHash x = Checks.with(0, 1, 2, 3);
        due("nothing was seen", x.canBe(-1), 4);
        x.seen(12, 0);
        x.seen(59, 0);
        due("no key has a vertex that is not there", x.canBe(-1), 4);
        x.seen(12, 1);
        due("so that it can be none", x.canBe(-1), 0);
        due("canBe(0)", x.canBe(0), -1);
        // At side 5 vertex 12 is there: 0 has 0, 5, 10; 1 has 2, 6, 10, and so on.
        x.side(5);
        int having = x.vertex(12, 0);
        due("12 is there, and not there: both can't be", x.canBe(-1), 0);
        x.forget();
        x.seen(12, 1);
        due("12 at side 5", x.canBe(-1), having);
        x.forget();
        x.seen(14, 0);
        due("the last vertex at side 5", x.canBe(-1), 4 - x.vertex(14, 0));
        due("without keys", new PeeledHash().canBe(-1), 0);
    }

    private static void asked(int side, int vertex, int left, int... keys) {
        PeeledHash x = atSide(side, keys);
        due("ask(0) of " + Arrays.toString(keys) + " at side " + side, x.ask(0), vertex);
        due("ask(1) of " + Arrays.toString(keys) + " at side " + side, x.ask(1), left);
    }

    private static void asking() {
        CHECKS.says("To ASK for: the VERTEX by which of these the more of those that have it and those that have it not are as few as"
                + " can be; the lowest.");
        PeeledHash x = Checks.with(0, 1, 2, 3);
        due("2, 5, 11 are alike: ask(0)", x.ask(0), 2);
        due("ask(1)", x.ask(1), 2);
        // Sets of which no vertex below, in whichever part, does so well.
        asked(4, 7, 2, 42, 117, 328, 392);
        asked(4, 8, 2, 541, 552, 591, 592);
        asked(4, 11, 3, 302, 351, 468, 698, 846, 870);
        asked(20, 39, 3, 18, 373, 400, 630, 992);
        asked(20, 40, 2, 74, 268, 484, 943);
        asked(20, 59, 3, 32, 243, 245, 591, 925);
        // Thirty keys that have the same three vertices at side 2: no vertex parts them.
        asked(2, 0, 30, 5, 8, 9, 24, 25, 28, 44, 63, 79, 83, 98, 114, 118, 133, 134, 149, 153, 168, 169, 184, 188, 203, 204, 219,
                223, 238, 239, 254, 258, 274);
        // Another one in place of the last, with two vertices or one that the rest have not: the lowest that parts it.
        asked(2, 0, 29, 5, 8, 9, 24, 25, 28, 44, 63, 79, 83, 98, 114, 118, 133, 134, 149, 153, 168, 169, 184, 188, 203, 204, 219,
                223, 238, 239, 254, 258, 1);
        asked(2, 4, 29, 5, 8, 9, 24, 25, 28, 44, 63, 79, 83, 98, 114, 118, 133, 134, 149, 153, 168, 169, 184, 188, 203, 204, 219,
                223, 238, 239, 254, 258, 12);
        PeeledHash one = Checks.with(7);
        due("of one all are alike: ask(0)", one.ask(0), 0);
        due("ask(1)", one.ask(1), 1);
        PeeledHash two = Checks.with(0, 3);
        // 0: 0, 5, 10; 3: 2, 5, 8: vertex 0 parts them, 5 does not.
        due("of two: ask(0)", two.ask(0), 0);
        due("ask(1)", two.ask(1), 1);
        two.seen(5, 1);
        due("5 was seen of both: ask(0)", two.ask(0), 0);
        two.seen(0, 1);
        due("one is left: ask(1)", two.ask(1), 1);
        two.seen(0, 0);
        due("none is left: ask(0)", two.ask(0), -1);
        due("none is left: ask(1)", two.ask(1), -1);
        // 15: 0, 3, 4; 16: 1, 2, 5; 44: 0, 2, 4; 45: 1, 3, 5: each vertex halves them.
        PeeledHash halves = atSide(2, 15, 16, 44, 45);
        due("all halve them: ask(0)", halves.ask(0), 0);
        due("ask(1)", halves.ask(1), 2);
        halves.seen(0, 1);
        due("0 was seen: ask(0)", halves.ask(0), 2);
        due("ask(1)", halves.ask(1), 1);
    }

    private static long chance(int k, int n, int slips) {
        BigInteger[] parts = new BigInteger[n + 2];
        java.util.Arrays.fill(parts, BigInteger.ZERO);
        parts[0] = BigInteger.TEN.pow(12);
        for (int key = 0; key < n; key++) {
            for (int did = n; did >= 0; did--) {
                BigInteger more = parts[did].multiply(BigInteger.valueOf(slips)).divide(BigInteger.TEN);
                parts[did + 1] = parts[did + 1].add(more);
                parts[did] = parts[did].multiply(BigInteger.valueOf(10 - slips)).divide(BigInteger.TEN);
            }
        }
        BigInteger together = BigInteger.ZERO;
        for (int did = 0; did < k && did <= n; did++) {
            together = together.add(parts[did]);
        }
        return together.longValueExact();
    }

    private static void few() {
        CHECKS.says("FEW: the chance, of 1,000,000,000,000 parts, that of n keys, each of which slips in SLIPS of ten, fewer than k do:"
                + " key by key, by how many did, each part times the rest by ten and times SLIPS by ten (one more), both cut; of"
                + " those below k all together.");
        for (int slips = 0; slips <= 10; slips++) {
            PeeledHash x = new PeeledHash();
            x.terms(1, slips);
            for (int k = 1; k <= 20; k++) {
                for (int n : new int[] {0, 1, k - 1, k, k + 1, 12, 13, 98, 99}) {
                    due("few(" + k + ", " + n + ") of " + slips, x.few(k, n), chance(k, n, slips));
                }
            }
        }
        PeeledHash x = new PeeledHash();
        due("few(1, 12): nothing is cut", x.few(1, 12), 282429536481L);
        due("few(1, 13): cut", x.few(1, 13), 254186582832L);
        due("few(20, 19): fewer than 20 of 19, but for what is cut", x.few(20, 19) <= 1000000000000L ? 1 : 0, 1);
        x.terms(1, 10);
        due("few(20, 20), all slip", x.few(20, 20), 0);
        due("few(20, 19), all slip", x.few(20, 19), 1000000000000L);
        x.terms(1, 0);
        due("few(1, 99), none slips", x.few(1, 99), 1000000000000L);
    }

    private static void compared() {
        CHECKS.says("COMPARED: what a VERTEX RANKS by a LAW in place of that in FORCE (NONE: none).");
        PeeledHash x = new PeeledHash();
        due("compare(-1, 0) without laws", x.compare(-1, 0), 0);
        due("compare(0, 0) without laws", x.compare(0, 0), -1);
        Checks.law(x, "ranks 9 + vertex");
        x.force(0);
        due("compare(-1, 0)", x.compare(-1, 0), 0);
        due("compare(-2, 0)", x.compare(-2, 0), -1);
        due("compare(0, 0)", x.compare(0, 0), 9);
        due("compare(1, 0)", x.compare(1, 0), -1);
        due("compare(0, -1)", x.compare(0, -1), -1);
        due("compare(0, 11)", x.compare(0, 11), 20);
        due("compare(0, 12)", x.compare(0, 12), -1);
        due("the law in force is the same: count(12)", x.count(12), 0);
    }
}
