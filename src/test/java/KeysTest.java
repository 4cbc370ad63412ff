/** Promises 1 to 6 and 16, 17: a new object, keys and vertices, terms, what is added and taken away. */
public final class KeysTest {
    private static final Checks CHECKS = new Checks();

    public static void main(String[] args) {
        newObject();
        verticesOfKeys();
        degreesAndRanks();
        keysThatAreThere();
        terms();
        adding();
        taking();
        CHECKS.finish("KeysTest");
    }

    private static void due(String call, long got, long want) {
        CHECKS.due(call, got, want);
    }

    private static void newObject() {
        PeeledHash x = new PeeledHash();
        int[] counts = {0, 4, 0, 0, 0, 0, 0, 0, 0, 0, 0, 0, -1, 0, 1, 0};
        for (int what = 0; what < counts.length; what++) {
            due("new: count(" + what + ")", x.count(what), counts[what]);
        }
        due("new: there(0)", x.there(0), -1);
        due("new: table(0)", x.table(0), -1);
        due("new: found(0, 1)", x.found(0, 1), -1);
        due("new: fault()", x.fault(), -1);
        due("new: stopped()", x.stopped(), -1);
        due("new: blanks()", x.blanks(), 0);
        due("new: status()", x.status(), 0);
        due("new: drawn(0)", x.drawn(0), -1);
        due("new: back(0)", x.back(0), -2);
    }

    private static void verticesOfKeys() {
        PeeledHash x = Checks.with(7);
        due("key(7, 0)", x.key(7, 0), 1);
        due("key(8, 0)", x.key(8, 0), 0);
        due("key(7, 1)", x.key(7, 1), 0);
        // 7 times 377 is 2639, modulo 1009 621, modulo 4 1; 7 times 491 and 5: 415, 3; 7 times 605 and 10: 209, 1.
        due("key(7, 2)", x.key(7, 2), 1);
        due("key(7, 3)", x.key(7, 3), 7);
        due("key(7, 4)", x.key(7, 4), 9);
        x.side(20);
        x.seed(255);
        due("key(999, 2)", x.key(999, 2), 16);
        due("key(999, 3)", x.key(999, 3), 23);
        due("key(999, 4)", x.key(999, 4), 59);
        due("key(-1, 0)", x.key(-1, 0), -1);
        due("key(1000, 2)", x.key(1000, 2), -1);
        due("key(0, 5)", x.key(0, 5), -1);
        due("key(0, -1)", x.key(0, -1), -1);
        due("key(MAX, 2)", x.key(Integer.MAX_VALUE, 2), -1);
        due("status() behind key()", x.status(), 0);
        due("count(7) behind key()", x.count(7), 0);
    }

    private static void degreesAndRanks() {
        PeeledHash x = Checks.with(0, 1, 2, 3);
        int[] degrees = {1, 1, 2, 0, 1, 2, 0, 1, 1, 0, 1, 2};
        for (int v = 0; v < 12; v++) {
            due("vertex(" + v + ", 0)", x.vertex(v, 0), degrees[v]);
            due("vertex(" + v + ", 1)", x.vertex(v, 1), 0);
        }
        due("vertex(-1, 0)", x.vertex(-1, 0), -1);
        due("vertex(12, 1)", x.vertex(12, 1), -1);
        due("vertex(0, 2)", x.vertex(0, 2), -1);
        due("vertex(0, -1)", x.vertex(0, -1), -1);
        x.side(5);
        due("vertex(14, 0) at side 5", x.vertex(14, 0) >= 0 ? 1 : 0, 1);
        due("vertex(15, 0) at side 5", x.vertex(15, 0), -1);
        Checks.law(x, "ranks vertex * 10 - 20;ranks degree if part = 1");
        x.force(0);
        due("vertex(1, 1): the nearest is 0", x.vertex(1, 1), 0);
        due("vertex(3, 1)", x.vertex(3, 1), 10);
        due("vertex(14, 1): the nearest is 99", x.vertex(14, 1), 99);
        due("vertex(5, 1): the last that holds", x.vertex(5, 1), x.vertex(5, 0));
    }

    private static void keysThatAreThere() {
        PeeledHash x = Checks.with(500, 3, 999, 0, 42);
        int[] rising = {0, 3, 42, 500, 999};
        for (int i = 0; i < 5; i++) {
            due("there(" + i + ")", x.there(i), rising[i]);
        }
        due("there(5)", x.there(5), -1);
        due("there(-1)", x.there(-1), -1);
        due("there(MAX)", x.there(Integer.MAX_VALUE), -1);
        due("ceiling(MIN)", x.ceiling(Integer.MIN_VALUE), 0);
        due("ceiling(0)", x.ceiling(0), 0);
        due("ceiling(1)", x.ceiling(1), 3);
        due("ceiling(43)", x.ceiling(43), 500);
        due("ceiling(999)", x.ceiling(999), 999);
        due("ceiling(1000)", x.ceiling(1000), -1);
        due("ceiling(MAX)", x.ceiling(Integer.MAX_VALUE), -1);
    }

    private static void terms() {
        PeeledHash x = new PeeledHash();
        due("terms(0, 999)", x.terms(0, 999), 0);
        due("terms(0, 5)", x.terms(0, 5), 999);
        due("terms(1, 10)", x.terms(1, 10), 1);
        due("terms(1, 0)", x.terms(1, 0), 10);
        due("terms(2, 9)", x.terms(2, 9), 0);
        due("terms(2, 9) again", x.terms(2, 9), 9);
        due("count(13)", x.count(13), 5);
        due("count(14)", x.count(14), 0);
        due("count(15)", x.count(15), 9);
        x.add(1);
        int[][] wrong = {{0, 1000}, {1, 11}, {2, 10}, {0, -1}, {3, 0}, {-1, 0}, {-1, -1}, {3, -1}};
        for (int[] call : wrong) {
            due("terms(" + call[0] + ", " + call[1] + ")", x.terms(call[0], call[1]), -1);
            due("status()", x.status(), -1);
        }
        due("count(7)", x.count(7), wrong.length);
        due("count(13) behind refused ones", x.count(13), 5);
        due("count(5): a refused terms() leaves it", x.count(5), 1);
        due("terms(2, 9)", x.terms(2, 9), 9);
        due("status()", x.status(), 0);
        due("count(5): terms() ends what can be undone", x.count(5), 0);
        due("undo()", x.undo(), -3);
    }

    private static void adding() {
        PeeledHash x = new PeeledHash();
        for (int i = 0; i < 29; i++) {
            due("add(" + i * 3 + ")", x.add(i * 3), i + 1);
        }
        due("add(3)", x.add(3), -3);
        due("add(-1)", x.add(-1), -1);
        due("add(1000)", x.add(1000), -1);
        due("add(999)", x.add(999), 30);
        due("add(998): no room", x.add(998), -5);
        due("status()", x.status(), -5);
        due("add(999): there goes ahead of no room", x.add(999), -3);
        due("add(-5): a number goes ahead of no room", x.add(-5), -1);
        Checks.law(x, "bars if key = 998");
        x.force(0);
        due("add(998): barred goes ahead of no room", x.add(998), -3);
        due("add(997)", x.add(997), -5);
        x.take(3);
        due("add(998): barred", x.add(998), -3);
        due("key(998, 1)", x.key(998, 1), 1);
        due("key(997, 1)", x.key(997, 1), 0);
        x.force(-1);
        due("add(998)", x.add(998), 30);
        due("count(0)", x.count(0), 30);
    }

    private static void taking() {
        PeeledHash x = Checks.with(5, 6, 7);
        due("take(6)", x.take(6), 2);
        due("there(1)", x.there(1), 7);
        due("take(6) again", x.take(6), -3);
        due("take(-1)", x.take(-1), -1);
        due("take(1000)", x.take(1000), -1);
        Checks.law(x, "bars");
        x.force(0);
        due("take(5): bars are for adding", x.take(5), 1);
        due("take(7)", x.take(7), 0);
        due("there(0)", x.there(0), -1);
    }
}
