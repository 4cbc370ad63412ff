/** Promises 29 to 33: what was seen, which key it can be, what to ask for; how likely so few slip. */
public final class SeenTest {
    private static final Checks CHECKS = new Checks();

    public static void main(String[] args) {
        seen();
        canBe();
        asking();
        few();
        CHECKS.finish("SeenTest");
    }

    private static void due(String call, long got, long want) {
        CHECKS.due(call, got, want);
    }

    private static void seen() {
        PeeledHash x = new PeeledHash();
        due("seen(60, 1)", x.seen(60, 1), -1);
        due("seen(-1, 1)", x.seen(-1, 1), -1);
        due("seen(0, 2)", x.seen(0, 2), -1);
        due("seen(0, -1)", x.seen(0, -1), -1);
        due("status()", x.status(), -1);
        due("count(3)", x.count(3), 0);
        for (int i = 1; i <= 6; i++) {
            due("seen(59, 0) no. " + i, x.seen(59, 0), i);
        }
        due("seen(59, 0): no room", x.seen(59, 0), -5);
        due("status()", x.status(), -5);
        due("seen(60, 0): a number goes ahead of no room", x.seen(60, 0), -1);
        due("count(3)", x.count(3), 6);
        due("forget()", x.forget(), 6);
        due("status(): forget() leaves it", x.status(), -1);
        due("count(3)", x.count(3), 0);
        due("forget()", x.forget(), 0);
        due("seen(0, 1)", x.seen(0, 1), 1);
    }

    private static void canBe() {
        // 0: 0, 5, 10; 1: 1, 4, 11; 2: 2, 7, 11; 3: 2, 5, 8.
        PeeledHash x = Checks.with(0, 1, 2, 3);
        due("canBe(-1)", x.canBe(-1), 4);
        due("canBe(3)", x.canBe(3), 3);
        due("canBe(4)", x.canBe(4), -1);
        due("canBe(-2)", x.canBe(-2), -1);
        x.seen(11, 1);
        due("canBe(-1)", x.canBe(-1), 2);
        due("canBe(0)", x.canBe(0), 1);
        due("canBe(1)", x.canBe(1), 2);
        x.seen(4, 0);
        due("canBe(-1)", x.canBe(-1), 1);
        due("canBe(0)", x.canBe(0), 2);
        x.seen(12, 0);
        due("a vertex that is not there no key has", x.canBe(-1), 1);
        x.seen(12, 1);
        due("canBe(-1)", x.canBe(-1), 0);
        due("canBe(0)", x.canBe(0), -1);
        x.forget();
        x.seen(5, 1);
        due("canBe(-1)", x.canBe(-1), 2);
        x.take(3);
        due("canBe(-1): keys that are there now", x.canBe(-1), 1);
        x.seed(1);
        // 101 modulo 4 is 1, 151 + 5 is 0: key 0 has vertices 1, 4 at seed 1; 5 is not among them.
        due("canBe(-1): by the seed as it is now", x.canBe(0) == 0 ? 1 : 0, 0);
        x.seed(0);
        x.side(2);
        // Part 2 at side 2 begins at 4: 0 has 4 + 0.
        due("key(0, 4)", x.key(0, 4), 4);
        due("canBe(): by the side as it is now", x.canBe(0) == 0 ? 1 : 0, 0);
    }

    private static void asking() {
        // 0: 0, 5, 10; 1: 1, 4, 11; 2: 2, 7, 11; 3: 2, 5, 8: vertices 2, 5, 11 halve them.
        PeeledHash x = Checks.with(0, 1, 2, 3);
        due("ask(0)", x.ask(0), 2);
        due("ask(1)", x.ask(1), 2);
        x.seen(2, 0);
        due("ask(0)", x.ask(0), 0);
        due("ask(1)", x.ask(1), 1);
        due("ask(2)", x.ask(2), -1);
        due("ask(-1)", x.ask(-1), -1);
        x.seen(0, 1);
        due("ask(0) of one", x.ask(0), 0);
        due("ask(1) of one", x.ask(1), 1);
        x.seen(0, 0);
        due("ask(0) of none", x.ask(0), -1);
        due("ask(1) of none", x.ask(1), -1);
        due("ask(0) without keys", new PeeledHash().ask(0), -1);
    }

    private static void few() {
        PeeledHash x = new PeeledHash();
        due("few(1, 0)", x.few(1, 0), 1000000000000L);
        due("few(20, 0)", x.few(20, 0), 1000000000000L);
        due("few(1, 2)", x.few(1, 2), 810000000000L);
        due("few(2, 2)", x.few(2, 2), 990000000000L);
        due("few(3, 2)", x.few(3, 2), 1000000000000L);
        due("few(1, 12)", x.few(1, 12), 282429536481L);
        due("few(1, 13): cut", x.few(1, 13), 254186582832L);
        due("few(0, 1)", x.few(0, 1), -1);
        due("few(21, 1)", x.few(21, 1), -1);
        due("few(1, -1)", x.few(1, -1), -1);
        due("few(1, 100)", x.few(1, 100), -1);
        due("few(20, 99) is some", x.few(20, 99) > 990000000000L && x.few(20, 99) < 1000000000000L ? 1 : 0, 1);
        x.terms(1, 10);
        due("all slip: few(1, 0)", x.few(1, 0), 1000000000000L);
        due("all slip: few(5, 5)", x.few(5, 5), 0);
        due("all slip: few(6, 5)", x.few(6, 5), 1000000000000L);
        x.terms(1, 0);
        due("none slips: few(1, 99)", x.few(1, 99), 1000000000000L);
        x.terms(1, 3);
        due("few(1, 3)", x.few(1, 3), 343000000000L);
        due("few(2, 3)", x.few(2, 3), 343000000000L + 441000000000L);
        due("status()", x.status(), 0);
        due("count(7)", x.count(7), 0);
    }
}
