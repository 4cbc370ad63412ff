/** Promises 18 to 21: sides, seeds, builds and what is undone. */
public final class ChangesTest {
    private static final Checks CHECKS = new Checks();

    public static void main(String[] args) {
        sides();
        seeds();
        builds();
        lawsOfBuilds();
        undoing();
        sixteen();
        whatEndsIt();
        CHECKS.finish("ChangesTest");
    }

    private static void due(String call, long got, long want) {
        CHECKS.due(call, got, want);
    }

    private static void sides() {
        PeeledHash x = new PeeledHash();
        due("side(2)", x.side(2), 4);
        due("side(20)", x.side(20), 2);
        due("side(20)", x.side(20), -3);
        due("status()", x.status(), -3);
        due("side(1)", x.side(1), -1);
        due("side(21)", x.side(21), -1);
        due("side(-4)", x.side(-4), -1);
        due("status()", x.status(), -1);
        due("side(4)", x.side(4), 20);
        due("count(1)", x.count(1), 4);
        due("vertex(11, 0)", x.vertex(11, 0), 0);
        due("vertex(12, 0)", x.vertex(12, 0), -1);
    }

    private static void seeds() {
        PeeledHash x = new PeeledHash();
        due("seed(255)", x.seed(255), 0);
        due("seed(255)", x.seed(255), -3);
        due("seed(256)", x.seed(256), -1);
        due("seed(-1)", x.seed(-1), -1);
        due("seed(0)", x.seed(0), 255);
        due("seed(3)", x.seed(3), 0);
        due("count(2)", x.count(2), 3);
        // 3 times 101 is 303, modulo 4 3.
        due("key(0, 2)", x.key(0, 2), 3);
    }

    /** Of keys 0 to 9 at side 4 seeds 7 and 10 alone are good. */
    private static PeeledHash tenKeys() {
        return Checks.with(0, 1, 2, 3, 4, 5, 6, 7, 8, 9);
    }

    private static void builds() {
        PeeledHash x = tenKeys();
        due("build()", x.build(), 7);
        due("count(2)", x.count(2), 7);
        due("table(1)", x.table(1), 7);
        due("count(13)", x.count(13), 1);
        due("build() at a good seed", x.build(), 0);
        due("count(13)", x.count(13), 2);
        x.seed(8);
        due("build()", x.build(), 2);
        due("count(2)", x.count(2), 10);
        x.seed(11);
        due("build() behind 255", x.build(), 252);
        due("count(2)", x.count(2), 7);
        x.seed(8);
        x.add(10);
        due("build() without a good seed", x.build(), -3);
        due("status()", x.status(), -3);
        due("count(2)", x.count(2), 8);
        due("count(13)", x.count(13), 4);
        due("table(2)", x.table(2), 10);
        due("table(1)", x.table(1), 7);
        due("undo() passes over what was refused", x.undo(), 0);
        PeeledHash y = Checks.with(5);
        y.terms(0, 998);
        y.build();
        due("count(13)", y.count(13), 999);
        y.build();
        due("count(13): 999 stays", y.count(13), 999);
        due("undo()", y.undo(), 4);
        due("undo()", y.undo(), 4);
        due("count(13)", y.count(13), 998);
    }

    /** A law is asked by the seed that is tried, and by the time ahead of the build. */
    private static void lawsOfBuilds() {
        PeeledHash x = tenKeys();
        Checks.law(x, "ranks 50 - vertex if seed = 7 and time = 0");
        x.build();
        int plain = x.table(64) * 65536 + x.table(65) * 256 + x.table(66);
        x.undo();
        x.force(0);
        due("build()", x.build(), 7);
        int ranked = x.table(64) * 65536 + x.table(65) * 256 + x.table(66);
        due("another table by the law", ranked == plain ? 1 : 0, 0);
        x.build();
        int later = x.table(64) * 65536 + x.table(65) * 256 + x.table(66);
        due("the plain table at time 1", later, plain);
    }

    private static void undoing() {
        PeeledHash x = Checks.with(1, 2);
        x.build();
        x.take(1);
        x.side(9);
        x.seed(33);
        x.build();
        x.add(77);
        due("count(5)", x.count(5), 8);
        due("undo()", x.undo(), 0);
        due("key(77, 0)", x.key(77, 0), 0);
        due("undo()", x.undo(), 4);
        due("table(0)", x.table(0), 4);
        due("table(2)", x.table(2), 2);
        due("count(13)", x.count(13), 1);
        due("undo()", x.undo(), 3);
        due("count(2)", x.count(2), 0);
        due("undo()", x.undo(), 2);
        due("count(1)", x.count(1), 4);
        due("undo()", x.undo(), 1);
        due("key(1, 0)", x.key(1, 0), 1);
        due("status()", x.status(), 0);
        due("undo()", x.undo(), 4);
        due("table(0)", x.table(0), -1);
        due("count(13)", x.count(13), 0);
        due("undo()", x.undo(), 0);
        due("undo()", x.undo(), 0);
        due("undo()", x.undo(), -3);
        due("status()", x.status(), -3);
        due("count(9)", x.count(9), 1);
        due("count(5)", x.count(5), 0);
        PeeledHash y = tenKeys();
        y.build();
        due("undo()", y.undo(), 4);
        due("the seed is as it was", y.count(2), 0);
        Checks.law(y, "bars");
        y.force(0);
        y.take(5);
        due("undo() of a key that is barred", y.undo(), 1);
        due("key(5, 0)", y.key(5, 0), 1);
    }

    private static void sixteen() {
        PeeledHash x = new PeeledHash();
        for (int i = 0; i < 20; i++) {
            x.add(i);
        }
        due("count(5)", x.count(5), 16);
        due("add(5)", x.add(5), -3);
        due("count(5): a refused one leaves it", x.count(5), 16);
        for (int i = 19; i >= 4; i--) {
            due("undo()", x.undo(), 0);
            due("count(0)", x.count(0), i);
        }
        due("undo()", x.undo(), -3);
        due("there(3)", x.there(3), 3);
    }

    private static void whatEndsIt() {
        PeeledHash x = Checks.with(1, 2);
        x.seen(5, 1);
        x.forget();
        x.image(0);
        x.years(5, 5);
        x.terms(3, 0);
        x.back(1);
        x.row();
        x.law();
        x.orders();
        due("count(5): none of these ends it", x.count(5), 2);
        x.seen(5, 1);
        due("undo()", x.undo(), 0);
        due("count(3): what was seen stays", x.count(3), 1);
        x.back(0);
        due("count(5): back() does", x.count(5), 0);
    }
}
