/** The edges that Terms I of the document names: keys, sides, seeds, vertices, terms, the order of refusals. */
public final class EdgesOfTermsTest {
    private static final Checks CHECKS = new Checks();

    public static void main(String[] args) {
        calls();
        keys();
        sides();
        seeds();
        vertices();
        verticesGoRound();
        degrees();
        tables();
        seen();
        terms();
        orderOfRefusals();
        CHECKS.finish("EdgesOfTermsTest");
    }

    private static void due(String call, long got, long want) {
        CHECKS.due(call, got, want);
    }

    private static void calls() {
        CHECKS.says("An object is used for at most 512 calls after it has been made; what later calls answer is free.");
        PeeledHash x = new PeeledHash();
        for (int call = 1; call < 511; call++) {
            if (call % 2 == 1) {
                x.add(7);
            } else {
                x.take(7);
            }
        }
        due("call 511", x.add(7), 1);
        due("call 512", x.count(0), 1);
        // Calls behind the 512th may answer anything, but none may throw.
        for (int call = 0; call < 600; call++) {
            x.add(call);
            x.undo();
            x.build();
            x.count(call % 16);
        }
    }

    private static void keys() {
        CHECKS.says("KEYS 0 .. 999, 30 at most are THERE (none at first).");
        PeeledHash x = new PeeledHash();
        due("none at first: count(0)", x.count(0), 0);
        due("none at first: there(0)", x.there(0), -1);
        due("add(-1)", x.add(-1), -1);
        due("add(0)", x.add(0), 1);
        due("add(999)", x.add(999), 2);
        due("add(1000)", x.add(1000), -1);
        due("there(0)", x.there(0), 0);
        due("there(1)", x.there(1), 999);
        due("there(2)", x.there(2), -1);
        for (int key = 101; key <= 127; key++) {
            x.add(key);
        }
        due("count(0)", x.count(0), 29);
        due("the 30th", x.add(128), 30);
        due("the 31st", x.add(129), -5);
        due("count(0): 30 stay", x.count(0), 30);
        due("key(129, 0)", x.key(129, 0), 0);
        due("there(29)", x.there(29), 999);
        due("there(30)", x.there(30), -1);
        due("take(0)", x.take(0), 29);
        due("room again: the 30th", x.add(129), 30);
        due("the 31st", x.add(0), -5);
    }

    private static void sides() {
        CHECKS.says("SIDE 2 .. 20 (4 at first)");
        PeeledHash x = new PeeledHash();
        due("4 at first: count(1)", x.count(1), 4);
        due("side(1)", x.side(1), -1);
        due("side(2)", x.side(2), 4);
        due("side(20)", x.side(20), 2);
        due("side(21)", x.side(21), -1);
        due("count(1): 20 stays", x.count(1), 20);
    }

    private static void seeds() {
        CHECKS.says("SEED 0 .. 255 (0 at first).");
        PeeledHash x = new PeeledHash();
        due("0 at first: count(2)", x.count(2), 0);
        due("seed(-1)", x.seed(-1), -1);
        due("seed(255)", x.seed(255), 0);
        due("seed(256)", x.seed(256), -1);
        due("count(2): 255 stays", x.count(2), 255);
        due("seed(0)", x.seed(0), 255);
    }

    private static void vertices() {
        CHECKS.says("VERTICES 0 .. 3 times SIDE less 1: PART 0, 1, 2, each of SIDE.");
        for (int side = 2; side <= 20; side++) {
            PeeledHash x = new PeeledHash();
            x.side(side);
            Checks.law(x, "ranks part + 1");
            x.force(0);
            due("vertex(-1, 0) at side " + side, x.vertex(-1, 0), -1);
            due("vertex(0, 0) at side " + side, x.vertex(0, 0), 0);
            due("the last vertex at side " + side, x.vertex(3 * side - 1, 0), 0);
            due("behind the last vertex at side " + side, x.vertex(3 * side, 0), -1);
            for (int part = 0; part < 3; part++) {
                due("the first of part " + part + " at side " + side, x.vertex(part * side, 1), part + 1);
                due("the last of part " + part + " at side " + side, x.vertex(part * side + side - 1, 1), part + 1);
            }
        }
    }

    private static int ofDocument(long key, int j, long seed, int side) {
        long number = key * (j * 114L + 377L) + seed * (j * 50L + 101L) + j * 5L;
        return (int) (j * side + number % 1009L % side);
    }

    private static void verticesGoRound() {
        CHECKS.says("A KEY has three by a SEED and a SIDE: in PART j that of number j times SIDE and [[KEY times (j times 114, and 377)] and [SEED times (j times 50,"
                + " and 101)] and j times 5] modulo 1,009, modulo SIDE.");
        PeeledHash x = new PeeledHash();
        x.side(20);
        // What is in the outer brackets is 1,008 for the first of each two keys and 1,009, 0 modulo that, for the second.
        due("key(918, 2): 1,008 modulo 20", x.key(918, 2), 8);
        due("key(0, 2): 0", x.key(0, 2), 0);
        due("key(561, 3): 1,008 modulo 20", x.key(561, 3), 28);
        due("key(972, 3): 0 modulo 1,009", x.key(972, 3), 20);
        due("key(532, 4): 1,008 modulo 20", x.key(532, 4), 48);
        due("key(25, 4): 0 modulo 1,009", x.key(25, 4), 40);
        x.seed(255);
        due("key(111, 2) at seed 255: 1,008", x.key(111, 2), 8);
        due("key(202, 2) at seed 255: 0", x.key(202, 2), 0);
        due("key(162, 3) at seed 255: 1,008", x.key(162, 3), 28);
        due("key(573, 3) at seed 255: 0", x.key(573, 3), 20);
        due("key(22, 4) at seed 255: 1,008", x.key(22, 4), 48);
        due("key(524, 4) at seed 255: 0", x.key(524, 4), 40);
        int[] seeds = {0, 1, 128, 254, 255};
        for (int side = 2; side <= 20; side++) {
            for (int seed : seeds) {
                for (int first = 0; first < 1000; first += 125) {
                    allOf(first, first + 125, seed, side);
                }
            }
        }
    }

    private static void allOf(int first, int behind, int seed, int side) {
        PeeledHash x = new PeeledHash();
        x.side(side);
        x.seed(seed);
        for (int key = first; key < behind; key++) {
            for (int j = 0; j < 3; j++) {
                due("key(" + key + ", " + (2 + j) + ") at seed " + seed + ", side " + side, x.key(key, 2 + j),
                        ofDocument(key, j, seed, side));
            }
        }
    }

    private static void degrees() {
        CHECKS.says("DEGREE of a VERTEX: how many KEYS that are THERE have it by SEED and SIDE.");
        PeeledHash x = new PeeledHash();
        x.side(2);
        due("vertex(0, 0) without keys", x.vertex(0, 0), 0);
        int there = 0;
        for (int key = 0; there < 30; key++) {
            if (ofDocument(key, 0, 0, 2) == 0) {
                there = x.add(key);
                due("vertex(0, 0) of " + there + " keys", x.vertex(0, 0), there);
            }
        }
        due("vertex(1, 0): no key has it", x.vertex(1, 0), 0);
        due("vertex(2, 0), vertex(3, 0): each key has one", x.vertex(2, 0) + x.vertex(3, 0), 30);
        due("vertex(4, 0), vertex(5, 0): each key has one", x.vertex(4, 0) + x.vertex(5, 0), 30);
        x.seed(1);
        due("vertex(0, 0), vertex(1, 0) by another seed", x.vertex(0, 0) + x.vertex(1, 0), 30);
        due("vertex(1, 0) by another seed", x.vertex(1, 0) > 0 ? 1 : 0, 1);
    }

    private static void tables() {
        CHECKS.says("TABLE (none at first): the latest BUILT: its SIDE, SEED, how many KEYS, of each VERTEX a SIGN 0 .. 3 and a"
                + " STEP.");
        PeeledHash x = Checks.with(0, 1, 2, 3);
        due("none at first: table(0)", x.table(0), -1);
        x.build();
        due("table(0)", x.table(0), 4);
        for (int v = 0; v < 12; v++) {
            due("a sign 0 .. 3 of " + v, x.table(4 + v) >= 0 && x.table(4 + v) <= 3 ? 1 : 0, 1);
        }
        x.take(0);
        x.side(5);
        due("table(0): the latest built, whatever the side is", x.table(0), 4);
        x.build();
        due("table(0): the latest built", x.table(0), 5);
        due("table(2): the latest built", x.table(2), 3);
    }

    private static void seen() {
        CHECKS.says("SEEN, 6 at most: a KEY that is THERE nobody knows has a VERTEX, or not.");
        PeeledHash x = Checks.with(0, 1, 2, 3);
        due("none at first: count(3)", x.count(3), 0);
        for (int i = 1; i <= 6; i++) {
            due("seen no. " + i, x.seen(3, 0), i);
        }
        due("canBe(-1)", x.canBe(-1), 4);
        due("the 7th", x.seen(0, 1), -5);
        due("count(3): 6 stay", x.count(3), 6);
        due("canBe(-1): the 7th was not kept", x.canBe(-1), 4);
    }

    private static void terms() {
        CHECKS.says("TERMS: 0 TIME 0 .. 999 (0 at first), 1 SLIPS 0 .. 10 (1), 2 MOOD 0 .. 9 (0).");
        int[] first = {0, 1, 0};
        int[] most = {999, 10, 9};
        PeeledHash x = new PeeledHash();
        for (int what = 0; what < 3; what++) {
            due("at first: count(" + (13 + what) + ")", x.count(13 + what), first[what]);
            due("terms(" + what + ", most)", x.terms(what, most[what]), first[what]);
            due("terms(" + what + ", most + 1)", x.terms(what, most[what] + 1), -1);
            due("count(): the most stays", x.count(13 + what), most[what]);
            due("terms(" + what + ", 0)", x.terms(what, 0), most[what]);
            due("terms(" + what + ", -1)", x.terms(what, -1), -1);
            due("count(): 0 stays", x.count(13 + what), 0);
        }
        due("terms(-1, 0)", x.terms(-1, 0), -1);
        due("terms(3, 0)", x.terms(3, 0), -1);
    }

    private static void orderOfRefusals() {
        CHECKS.says("REFUSED by: -1 a number that can't be; -2 there is no such LAW, IMAGE; -3 it can't be by what stands; -5 no"
                + " room; -6 a TEXT, a ROW that can't be. The first of these in that order.");
        PeeledHash x = new PeeledHash();
        due("-1 ahead of -2: back(2), none is kept", x.back(2), -1);
        due("-2: back(1)", x.back(1), -2);
        due("-1 ahead of -3: take(1000), none is there", x.take(1000), -1);
        due("-3: take(999)", x.take(999), -3);
        for (int key = 0; key < 30; key++) {
            x.add(key);
        }
        due("-1 ahead of -5: add(1000), full", x.add(1000), -1);
        due("-3 ahead of -5: add(29), full", x.add(29), -3);
        due("-5: add(30)", x.add(30), -5);
        Checks.law(x, "bars if key = 30");
        x.force(0);
        due("-3 ahead of -5: add(30) that is barred, full", x.add(30), -3);
        due("-5: add(31)", x.add(31), -5);
        for (int i = 0; i < 6; i++) {
            x.seen(0, 0);
        }
        due("-1 ahead of -5: seen(60, 0), full", x.seen(60, 0), -1);
        due("-1 ahead of -5: seen(59, 2), full", x.seen(59, 2), -1);
        due("-5: seen(59, 1)", x.seen(59, 1), -5);
        for (int i = 1; i < 6; i++) {
            Checks.law(x, "bars");
        }
        due("-5 ahead of -6: a law that is none, full", Checks.law(x, "?"), -5);
        due("-5 ahead of -6: an empty tape, full", x.law(), -5);
    }
}
