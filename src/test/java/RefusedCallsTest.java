import java.util.ArrayList;
import java.util.List;
import java.util.function.Consumer;
import java.util.function.ToLongFunction;

/**
 * What a refused call, and one that only asks, leaves as it was: two objects are made alike, one of them is called in
 * addition; from then on both must answer alike, whatever is asked, undone, gone back to, or read from the tape.
 */
public final class RefusedCallsTest {
    private static final Checks CHECKS = new Checks();
    private static final int MIN = Integer.MIN_VALUE;
    private static final int MAX = Integer.MAX_VALUE;

    public static void main(String[] args) {
        refusedTerms();
        refusedTexts();
        refusedLaws();
        refusedOrders();
        refusedChanges();
        refusedByFullness();
        refusedOthers();
        feedAndEnd();
        whatOnlyAsks();
        CHECKS.finish("RefusedCallsTest");
    }

    /** Of everything something: keys, a table, laws, what was seen, terms, an image, years, blanks, what can be undone. */
    private static PeeledHash some() {
        PeeledHash x = new PeeledHash();
        Checks.law(x, "ranks 40 - vertex;bars if key = 77");
        Checks.law(x, "ranks degree * 7 + part;bars if key = 78");
        x.terms(0, 5);
        x.terms(1, 3);
        x.terms(2, 4);
        x.force(0);
        for (int key = 10; key <= 100; key += 10) {
            x.add(key);
        }
        x.image(0);
        Checks.tape(x, "\1\1\0\50\3");
        x.row();
        x.force(1);
        x.side(7);
        x.build();
        x.years(4711, 30);
        x.add(333);
        x.take(20);
        x.seed(9);
        x.seen(3, 0);
        x.seen(5, 0);
        Checks.orders(x, "add 500;add 500");
        Checks.law(x, "ranks 1 + ;");
        return x;
    }

    private static PeeledHash withTape() {
        PeeledHash x = some();
        Checks.tape(x, "\1\2\1\3\0");
        return x;
    }

    private static PeeledHash full() {
        PeeledHash x = some();
        x.force(-1);
        for (int key = 600; x.count(0) < 30; key++) {
            x.add(key);
        }
        for (int i = 0; i < 4; i++) {
            x.seen(1, 0);
        }
        for (int i = 0; i < 4; i++) {
            Checks.law(x, "ranks 3");
        }
        Checks.tape(x, "\1\2\1\3\0");
        return x;
    }

    private static PeeledHash withoutGoodSeeds() {
        PeeledHash x = some();
        x.side(2);
        return x;
    }

    /** All that can be asked without a change, but for status, refusals, fault and where orders stopped. */
    private static List<Long> told(PeeledHash x) {
        List<Long> all = new ArrayList<>();
        int[] counts = {0, 1, 2, 3, 4, 5, 6, 12, 13, 14, 15};
        for (int what : counts) {
            all.add((long) x.count(what));
        }
        for (int i = 0; i < 30; i++) {
            all.add((long) x.there(i));
        }
        for (int what = 0; what < 4; what++) {
            all.add((long) x.table(what));
        }
        for (int what = 64; what < 70; what++) {
            all.add((long) x.table(what));
        }
        for (int what = 0; what < 3; what++) {
            all.add((long) x.found(333, what));
            all.add((long) x.found(50, what));
        }
        for (int law = -1; law < 6; law++) {
            all.add((long) x.compare(law, 2));
        }
        all.add((long) x.vertex(3, 1));
        all.add((long) x.key(77, 1));
        all.add((long) x.key(78, 1));
        all.add((long) x.canBe(-1));
        all.add((long) x.ask(0));
        all.add((long) x.drawn(7));
        all.add((long) x.drawn(39));
        all.add(x.few(2, 5));
        all.add((long) x.blanks());
        all.add((long) x.core(200));
        all.add((long) x.peeled(1, 0));
        return all;
    }

    private interface Making {
        PeeledHash make();
    }

    private static void same(String call, List<Long> got, List<Long> want) {
        for (int i = 0; i < want.size(); i++) {
            CHECKS.due(call + ", then no. " + i, got.get(i), want.get(i));
        }
    }

    /** The call is refused by that number; the second object is called by what the document tells it does for all that. */
    private static void refused(String call, Making making, ToLongFunction<PeeledHash> made, int by, Consumer<PeeledHash> else_) {
        int[] places = {7, 8, 9, 10, 11};
        int[] numbers = {-1, -2, -3, -5, -6};
        for (int way = 0; way < 3; way++) {
            PeeledHash x = making.make();
            PeeledHash y = making.make();
            CHECKS.due(call, made.applyAsLong(x), by);
            CHECKS.due(call + ": status()", x.status(), by);
            else_.accept(y);
            for (int i = 0; i < places.length; i++) {
                CHECKS.due(call + ": count(" + places[i] + ")", x.count(places[i]),
                        y.count(places[i]) + (numbers[i] == by ? 1 : 0));
            }
            goOn(call, x, y, way);
        }
    }

    private static void refused(String call, Making making, ToLongFunction<PeeledHash> made, int by) {
        refused(call, making, made, by, y -> { });
        PeeledHash x = making.make();
        int fault = x.fault();
        int stopped = x.stopped();
        made.applyAsLong(x);
        CHECKS.due(call + ": fault()", x.fault(), fault);
        CHECKS.due(call + ": stopped()", x.stopped(), stopped);
    }

    /** The call is not refused and changes nothing. */
    private static void asks(String call, Making making, ToLongFunction<PeeledHash> made) {
        PeeledHash x = making.make();
        PeeledHash y = making.make();
        made.applyAsLong(x);
        for (int what = 7; what <= 11; what++) {
            CHECKS.due(call + ": count(" + what + ")", x.count(what), y.count(what));
        }
        CHECKS.due(call + ": status()", x.status(), y.status());
        CHECKS.due(call + ": fault()", x.fault(), y.fault());
        CHECKS.due(call + ": stopped()", x.stopped(), y.stopped());
        for (int way = 0; way < 3; way++) {
            x = making.make();
            y = making.make();
            made.applyAsLong(x);
            goOn(call, x, y, way);
        }
    }

    private static void goOn(String call, PeeledHash x, PeeledHash y, int way) {
        same(call, told(x), told(y));
        if (way == 0) {
            for (int i = 0; i < 17; i++) {
                CHECKS.due(call + ", then undo() no. " + i, x.undo(), y.undo());
                CHECKS.due(call + ", then count(0)", x.count(0), y.count(0));
                CHECKS.due(call + ", then table(1)", x.table(1), y.table(1));
            }
        } else if (way == 1) {
            CHECKS.due(call + ", then back(1)", x.back(1), y.back(1));
            CHECKS.due(call + ", then back(0)", x.back(0), y.back(0));
            same(call + ", back(0)", told(x), told(y));
        } else {
            CHECKS.due(call + ", then row()", x.row(), y.row());
            CHECKS.due(call + ", then blanks()", x.blanks(), y.blanks());
            same(call + ", row()", told(x), told(y));
        }
    }

    private static void refusedTerms() {
        int[][] wrong = {{0, -1}, {0, 1000}, {1, -1}, {1, 11}, {2, -1}, {2, 10}, {-1, 0}, {3, 0}, {MIN, 5}, {0, MAX}};
        for (int[] call : wrong) {
            refused("terms(" + call[0] + ", " + call[1] + ")", RefusedCallsTest::withTape, x -> x.terms(call[0], call[1]), -1);
        }
    }

    private static void refusedTexts() {
        refused("row() of nothing", RefusedCallsTest::some, PeeledHash::row, -6);
        String[] texts = {"", " ", "?", "ranks", "ranks 1001", "ranks 1;", "bars 1", Checks.repeated("bars", 13, ";"),
            "ranks " + Checks.repeated("1", 51, "+"), "ranks [[[[[[[[[1]]]]]]]]]"};
        int[] faults = {0, 1, 0, 5, 6, 8, 5, 60, 106, 14};
        for (int i = 0; i < texts.length; i++) {
            String text = texts[i];
            refused("law \"" + text + "\"", RefusedCallsTest::some, x -> Checks.law(x, text), -6, y -> { });
            refused("law \"" + text + "\" on a full tape", RefusedCallsTest::some,
                    x -> Checks.law(x, text + " ".repeat(400 - text.length())), -6, y -> { });
            PeeledHash x = some();
            int stopped = x.stopped();
            Checks.law(x, text);
            CHECKS.due("fault() of law \"" + text + "\"", x.fault(), faults[i]);
            CHECKS.due("stopped() behind law \"" + text + "\"", x.stopped(), stopped);
        }
    }

    private static void refusedLaws() {
        refused("law() without room", RefusedCallsTest::full, PeeledHash::law, -5, y -> y.end(0));
        PeeledHash x = full();
        int fault = x.fault();
        int stopped = x.stopped();
        x.law();
        CHECKS.due("law() without room: fault()", x.fault(), fault);
        CHECKS.due("law() without room: stopped()", x.stopped(), stopped);
        CHECKS.due("law() without room: count(6)", x.count(6), 0);
        int[] laws = {-2, 2, 3, MIN, MAX};
        for (int law : laws) {
            refused("force(" + law + ")", RefusedCallsTest::withTape, y -> y.force(law), -2);
        }
    }

    private static void refusedOrders() {
        String[] faulty = {"", "  ", "add", "add 1;", "add 1 times 0", "add 1 times 21", "build;add degree 60",
            "build;add number 1000", Checks.repeated("build", 13, ";"), "build 1"};
        int[] faults = {0, 2, 3, 6, 12, 12, 17, 17, 72, 6};
        for (int i = 0; i < faulty.length; i++) {
            String text = faulty[i];
            refused("orders \"" + text + "\"", RefusedCallsTest::some, x -> Checks.orders(x, text), -6, y -> { });
            PeeledHash x = some();
            Checks.orders(x, text);
            CHECKS.due("fault() of orders \"" + text + "\"", x.fault(), faults[i]);
            CHECKS.due("stopped() of orders \"" + text + "\"", x.stopped(), -1);
        }
        String[] stopping = {"add 1000", "build;side 12;seed 77;take 30;add 31;build;add 1/0", "take 999", "side 7", "seed 9",
            "add 200 + done times 12;side 2;build", "build times 20;add 78", "add 700 + done times 19;add 1 + done times 12",
            "side 21", "side 1", "seed 256", "seed 0 - 1", "take 0 - 1", "take 1000 * 1000 * 1000 * 2"};
        int[] clauses = {0, 6, 0, 0, 0, 2, 1, 1, 0, 0, 0, 0, 0, 0};
        for (int i = 0; i < stopping.length; i++) {
            String text = stopping[i];
            refused("orders \"" + text + "\"", RefusedCallsTest::some, x -> Checks.orders(x, text), -3, y -> { });
            PeeledHash x = some();
            Checks.orders(x, text);
            CHECKS.due("fault() of orders \"" + text + "\"", x.fault(), -1);
            CHECKS.due("stopped() of orders \"" + text + "\"", x.stopped(), clauses[i]);
        }
    }

    private static void refusedChanges() {
        int[] noKeys = {-1, 1000, MIN, MAX};
        for (int key : noKeys) {
            refused("add(" + key + ")", RefusedCallsTest::withTape, x -> x.add(key), -1);
            refused("take(" + key + ")", RefusedCallsTest::withTape, x -> x.take(key), -1);
        }
        refused("add(10), there", RefusedCallsTest::withTape, x -> x.add(10), -3);
        refused("add(78), barred", RefusedCallsTest::withTape, x -> x.add(78), -3);
        refused("take(20), not there", RefusedCallsTest::withTape, x -> x.take(20), -3);
        int[] noSides = {1, 21, 0, -1, MIN, MAX};
        for (int side : noSides) {
            refused("side(" + side + ")", RefusedCallsTest::withTape, x -> x.side(side), -1);
        }
        refused("side(7), it is so", RefusedCallsTest::withTape, x -> x.side(7), -3);
        int[] noSeeds = {-1, 256, MIN, MAX};
        for (int seed : noSeeds) {
            refused("seed(" + seed + ")", RefusedCallsTest::withTape, x -> x.seed(seed), -1);
        }
        refused("seed(9), it is so", RefusedCallsTest::withTape, x -> x.seed(9), -3);
        refused("build() without a good seed", RefusedCallsTest::withoutGoodSeeds, PeeledHash::build, -3);
        refused("undo() of nothing", PeeledHash::new, PeeledHash::undo, -3);
    }

    private static void refusedByFullness() {
        refused("add(1), no room", RefusedCallsTest::full, x -> x.add(1), -5);
        refused("add(-1), no room", RefusedCallsTest::full, x -> x.add(-1), -1);
        refused("add(10), there, no room", RefusedCallsTest::full, x -> x.add(10), -3);
        refused("seen(59, 1), no room", RefusedCallsTest::full, x -> x.seen(59, 1), -5);
        refused("seen(60, 1), no room", RefusedCallsTest::full, x -> x.seen(60, 1), -1);
    }

    private static void refusedOthers() {
        int[][] noSeen = {{-1, 0}, {60, 0}, {0, -1}, {0, 2}, {MIN, 1}, {MAX, 1}};
        for (int[] call : noSeen) {
            refused("seen(" + call[0] + ", " + call[1] + ")", RefusedCallsTest::withTape, x -> x.seen(call[0], call[1]), -1);
        }
        int[][] noYears = {{-1, 1}, {1000001, 1}, {0, 0}, {0, 61}, {MIN, 1}, {0, MAX}};
        for (int[] call : noYears) {
            refused("years(" + call[0] + ", " + call[1] + ")", RefusedCallsTest::withTape, x -> x.years(call[0], call[1]), -1);
        }
        int[] noImages = {-1, 2, MIN, MAX};
        for (int k : noImages) {
            refused("image(" + k + ")", RefusedCallsTest::withTape, x -> x.image(k), -1);
            refused("back(" + k + ")", RefusedCallsTest::withTape, x -> x.back(k), -1);
        }
        refused("back(1), not kept", RefusedCallsTest::withTape, x -> x.back(1), -2);
    }

    private static void feedAndEnd() {
        Making most = () -> {
            PeeledHash x = some();
            Checks.tape(x, "\2\1\2\2".repeat(100));
            return x;
        };
        asks("feed() beyond 400", most, x -> x.feed(1, 1, 1, 1, 1));
        asks("end(401)", most, x -> x.end(401));
        asks("end(-1)", most, x -> x.end(-1));
        asks("end(400)", most, x -> x.end(400));
        asks("end(6) of 5", RefusedCallsTest::withTape, x -> x.end(6));
        asks("end(5) of 5", RefusedCallsTest::withTape, x -> x.end(5));
        Making almost = () -> {
            PeeledHash x = some();
            Checks.tape(x, "\2\1\2\2".repeat(95) + "\7");
            return x;
        };
        asks("feed() of 381", almost, x -> x.feed(1, 1, 1, 1, 1));
    }

    private static void whatOnlyAsks() {
        CHECKS.says("(On paper:) GOOD SEEDS: those of 0 .. 255");
        int[] numbers = {MIN, -2, -1, 0, 1, 4, 59, 60, 255, 256, 999, 1000, MAX};
        for (int n : numbers) {
            asks("all that asks with " + n, RefusedCallsTest::withTape, x -> {
                long all = 0;
                for (int what = -1; what <= 5; what++) {
                    all += x.key(n, what) + x.vertex(n, what) + x.peeled(n, what) + x.found(n, what);
                    all += x.compare(what, n) + x.few(n, what) + x.few(what, n);
                }
                all += x.there(n) + x.ceiling(n) + x.core(n) + x.good(n) + x.table(n) + x.twin(n) + x.canBe(n) + x.ask(n);
                return all + x.drawn(n) + x.count(n) + x.leastSide() + x.status() + x.fault() + x.stopped() + x.blanks();
            });
        }
    }
}
