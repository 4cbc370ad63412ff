/** Promises 12 to 14: orders, their faults and where they stopped. */
public final class OrdersTest {
    private static final Checks CHECKS = new Checks();

    public static void main(String[] args) {
        faults();
        eachOrder();
        words();
        times();
        notRun();
        stopping();
        undoing();
        CHECKS.finish("OrdersTest");
    }

    private static void due(String call, long got, long want) {
        CHECKS.due(call, got, want);
    }

    private static void faultAt(String text, int place) {
        PeeledHash x = new PeeledHash();
        int answer = Checks.orders(x, text);
        due("\"" + text + "\" is refused by -6", answer == -6 ? 1 : 0, place == -1 ? 0 : 1);
        due("fault() of \"" + text + "\"", x.fault(), place);
        due("count(6) behind \"" + text + "\"", x.count(6), 0);
        if (place != -1) {
            due("stopped() of \"" + text + "\"", x.stopped(), -1);
        }
    }

    private static void faults() {
        faultAt("", 0);
        faultAt("  ", 2);
        faultAt("add", 3);
        faultAt("add 5 if", 8);
        faultAt("ranks 5", 0);
        faultAt("build 5", 6);
        faultAt("build times", 11);
        faultAt("build times 0", 12);
        faultAt("build times 21", 12);
        faultAt("build times 20", -1);
        faultAt("build times 1", -1);
        faultAt("build times [1]", 12);
        faultAt("build times time", 12);
        faultAt("build times 2 times 2", 14);
        faultAt("build if 1=1 times 2", 13);
        faultAt("build times 2 if 1=2", -1);
        faultAt("add degree", 10);
        faultAt("add degree 60", 11);
        faultAt("add degree 59 + 8", -1);
        faultAt("add degree [5]", 11);
        faultAt("add degree keys", 11);
        faultAt("add number 1000", 11);
        faultAt("add number 999", -1);
        faultAt("add degree 0 + 5", -1);
        faultAt("add number 0 + 5", -1);
        faultAt("add vertex", 4);
        faultAt("add mood", 4);
        faultAt("add key", 4);
        faultAt("add seed", 4);
        faultAt("seed seed", 5);
        faultAt("add 1;side 5;seed 9;take 1;build", -1);
        faultAt("build;", 6);
        faultAt(Checks.repeated("build", 12, ";"), -1);
        faultAt(Checks.repeated("build", 13, ";"), 72);
        // Numbers behind "degree", "number" and "times" are no pieces.
        faultAt("add " + Checks.repeated("degree 5", 40, "+"), -1);
        faultAt("add " + Checks.repeated("keys", 50, "+"), -1);
        faultAt("add " + Checks.repeated("keys", 51, "+"), 254);
        faultAt("add " + Checks.repeated("1", 48, "+") + "+degree 5+number 5 times 3 if 1=2", 129);
        faultAt("add " + Checks.repeated("1", 46, "+") + "-degree 5-number 5 times 3 if 1=2", -1);
        faultAt("add " + Checks.repeated("1", 50, "+") + "+degree 5", 104);
    }

    private static void eachOrder() {
        PeeledHash x = new PeeledHash();
        due("add", Checks.orders(x, "add 5;add 6;add 7"), 3);
        due("count(0)", x.count(0), 3);
        due("take", Checks.orders(x, "take 3 * 2"), 1);
        due("key(6, 0)", x.key(6, 0), 0);
        due("side", Checks.orders(x, "side 20"), 1);
        due("count(1)", x.count(1), 20);
        due("seed", Checks.orders(x, "seed 255"), 1);
        due("count(2)", x.count(2), 255);
        due("build", Checks.orders(x, "build"), 1);
        due("table(0)", x.table(0), 20);
        due("count(13)", x.count(13), 1);
        due("status()", x.status(), 0);
        due("stopped()", x.stopped(), -1);
        due("fault()", x.fault(), -1);
    }

    private static void words() {
        PeeledHash x = Checks.with(0, 1, 2, 3);
        due("number without a table", Checks.orders(x, "add 100 if number 3 = 0 - 1"), 1);
        due("latest without a build", Checks.orders(x, "add 101 if latest = 0 - 1"), 1);
        due("degree of no vertex", Checks.orders(x, "add 102 if degree 12 = 0 - 1"), 1);
        x = Checks.with(0, 1, 2, 3);
        due("done, keys", Checks.orders(x, "add 10 + done;add 10 + done;add 200 + keys"), 3);
        due("there(4)", x.there(4), 10);
        due("there(5)", x.there(5), 11);
        due("there(6)", x.there(6), 206);
        x = Checks.with(0, 1, 2, 3);
        due("time", Checks.orders(x, "build times 3;add 100 + time"), 4);
        due("key(103, 0)", x.key(103, 0), 1);
        x = Checks.with(0, 1, 2, 3);
        due("degree, number", Checks.orders(x, "build;add 100 + degree 11 * 10 + number 3"), 2);
        due("key(123, 0)", x.key(123, 0), 1);
        x = Checks.with(0, 1, 2, 3);
        String many = Checks.repeated("degree 0", 20, "+") + "+" + Checks.repeated("number 2", 20, "+");
        due("many of them", Checks.orders(x, "build;add 100 + " + many), 2);
        due("key(160, 0)", x.key(160, 0), 1);
        x = Checks.with(0, 1, 2, 3);
        due("degree changes", Checks.orders(x, "take 2;add 100 + degree 2"), 2);
        due("key(101, 0)", x.key(101, 0), 1);
        // Of keys 0 to 9 at side 4 seeds 7 and 10 alone are good.
        x = Checks.with(0, 1, 2, 3, 4, 5, 6, 7, 8, 9);
        due("latest", Checks.orders(x, "build;add 900 + latest;build if latest < 0"), 2);
        due("key(907, 0)", x.key(907, 0), 1);
    }

    private static void times() {
        PeeledHash x = new PeeledHash();
        due("times 20", Checks.orders(x, "add done times 20"), 20);
        due("there(19)", x.there(19), 19);
        due("times with if", Checks.orders(x, "take done times 9 if done < 4"), 4);
        due("count(0)", x.count(0), 16);
        due("if is asked each time", Checks.orders(x, "add 500 times 20 if keys = 16"), 1);
        due("time at most", x.terms(0, 990), 0);
        due("builds", Checks.orders(new PeeledHash(), "build times 20"), 20);
        PeeledHash y = new PeeledHash();
        y.terms(0, 990);
        due("builds", Checks.orders(y, "build times 20"), 20);
        due("count(13): 999 stays", y.count(13), 999);
    }

    private static void notRun() {
        PeeledHash x = new PeeledHash();
        due("not so", Checks.orders(x, "add 5 if 1 = 2"), 0);
        due("broken", Checks.orders(x, "add 5 if 1 / 0 = 2"), 0);
        due("not of broken", Checks.orders(x, "add 5 if not 1 / 0 = 2"), 0);
        due("a broken sum behind what is not so", Checks.orders(x, "add 1 / 0 if 1 = 2"), 0);
        due("status()", x.status(), 0);
        due("count(5)", x.count(5), 0);
        due("count(0)", x.count(0), 0);
    }

    private static void stopsAt(PeeledHash x, String text, int clause) {
        int keys = x.count(0);
        int side = x.count(1);
        int seed = x.count(2);
        int undos = x.count(5);
        int time = x.count(13);
        int table = x.table(1);
        int refused = x.count(9);
        int others = x.count(7) + x.count(10);
        due("orders \"" + text + "\"", Checks.orders(x, text), -3);
        due("stopped() of \"" + text + "\"", x.stopped(), clause);
        due("fault() of \"" + text + "\"", x.fault(), -1);
        due("status()", x.status(), -3);
        due("count(0)", x.count(0), keys);
        due("count(1)", x.count(1), side);
        due("count(2)", x.count(2), seed);
        due("count(5)", x.count(5), undos);
        due("count(13)", x.count(13), time);
        due("table(1)", x.table(1), table);
        due("count(6)", x.count(6), 0);
        due("count(9): one call", x.count(9), refused + 1);
        due("count(7), count(10): none inside counts", x.count(7) + x.count(10), others);
    }

    private static void stopping() {
        PeeledHash x = Checks.with(0, 1, 2, 3);
        stopsAt(x, "add 1 / 0", 0);
        stopsAt(x, "add 5;add 5", 1);
        stopsAt(x, "add 1000", 0);
        stopsAt(x, "add 0 - 1", 0);
        stopsAt(x, "take 4", 0);
        stopsAt(x, "build;side 9;side 9", 2);
        stopsAt(x, "side 21", 0);
        stopsAt(x, "side 1", 0);
        stopsAt(x, "seed 9;seed 256", 1);
        stopsAt(x, "seed 0", 0);
        stopsAt(x, "side 20;add 10 + done times 20;build times 7;add 500 + done times 6;add 999", 4);
        stopsAt(x, "add 10 + done times 20;side 2;build", 2);
        stopsAt(x, "build if 1 = 2;take 0 times 2", 1);
        Checks.law(x, "bars if key > 500");
        x.force(0);
        stopsAt(x, "add 500;add 501", 1);
        due("orders behind", Checks.orders(x, "add 500"), 1);
        due("stopped()", x.stopped(), -1);
        stopsAt(x, "add 500", 0);
        due("a law leaves where orders stopped", Checks.law(x, "bars"), 1);
        due("stopped()", x.stopped(), 0);
        due("orders with a fault", Checks.orders(x, "add"), -6);
        due("stopped()", x.stopped(), -1);
    }

    private static void undoing() {
        PeeledHash x = Checks.with(0, 1, 2, 3);
        due("orders", Checks.orders(x, "side 7;seed 9;take 3;add 4;build"), 5);
        due("count(5)", x.count(5), 9);
        int[] kinds = {4, 0, 1, 3, 2, 0, 0, 0, 0, -3};
        for (int kind : kinds) {
            due("undo()", x.undo(), kind);
        }
        x = Checks.with(0, 1, 2, 3);
        due("20 of them", Checks.orders(x, "add 10 + done times 20"), 20);
        due("count(5): 16 are kept", x.count(5), 16);
        due("orders that stop", Checks.orders(x, "take 10 + done times 20;take 10"), -3);
        due("count(5)", x.count(5), 16);
        for (int i = 0; i < 16; i++) {
            due("undo()", x.undo(), 0);
        }
        due("undo()", x.undo(), -3);
        due("count(0)", x.count(0), 8);
        x = Checks.with(0, 1, 2, 3, 4, 5, 6, 7, 8, 9);
        due("10 of them behind 10", Checks.orders(x, "take done times 10"), 10);
        due("count(5)", x.count(5), 16);
        for (int i = 0; i < 16; i++) {
            due("undo()", x.undo(), i < 10 ? 1 : 0);
        }
        due("count(0)", x.count(0), 4);
    }
}
