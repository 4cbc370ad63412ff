/** The edges that promises 1 to 40 name, call by call: the numbers that a call takes, what is full, what is empty. */
public final class EdgesOfCallsTest {
    private static final Checks CHECKS = new Checks();
    private static final int MIN = Integer.MIN_VALUE;
    private static final int MAX = Integer.MAX_VALUE;

    public static void main(String[] args) {
        newObject();
        keyAndVertex();
        thereAndTerms();
        ceilingAndTwin();
        leastSideAndCompare();
        feedAndEnd();
        rowAndBlanks();
        law();
        orders();
        faultAndStopped();
        force();
        addAndTake();
        sideAndSeed();
        build();
        undo();
        undoEnds();
        tablesComeBack();
        coreAndPeeled();
        good();
        foundAndTable();
        seenAndForget();
        canBeAndAsk();
        few();
        years();
        drawn();
        imageAndBack();
        count();
        status();
        CHECKS.finish("EdgesOfCallsTest");
    }

    private static void due(String call, long got, long want) {
        CHECKS.due(call, got, want);
    }

    private static void newObject() {
        CHECKS.says("The constants: `NONE = -1`: There is none.");
        due("NONE", PeeledHash.NONE, -1);
        CHECKS.says("`PeeledHash()`: No keys, no table.");
        PeeledHash x = new PeeledHash();
        due("count(0)", x.count(0), 0);
        due("there(0)", x.there(0), -1);
        for (int what = 0; what <= 78; what++) {
            due("table(" + what + ")", x.table(what), -1);
        }
        PeeledHash y = new PeeledHash();
        y.add(5);
        due("another object has keys of its own", x.count(0), 0);
    }

    private static void keyAndVertex() {
        CHECKS.says("Of a KEY whether it is THERE (what 0: 1, 0), whether BARRED (1: 1, 0), its VERTEX in PART j by SEED and SIDE (2 +"
                + " j). NONE.");
        PeeledHash x = Checks.with(0, 999);
        for (int what = 0; what <= 4; what++) {
            due("key(-1, " + what + ")", x.key(-1, what), -1);
            due("key(0, " + what + ")", x.key(0, what) >= 0 ? 1 : 0, 1);
            due("key(999, " + what + ")", x.key(999, what) >= 0 ? 1 : 0, 1);
            due("key(1000, " + what + ")", x.key(1000, what), -1);
            due("key(MIN, " + what + ")", x.key(MIN, what), -1);
            due("key(MAX, " + what + ")", x.key(MAX, what), -1);
        }
        int[] wrong = {MIN, -1, 5, MAX};
        for (int what : wrong) {
            due("key(0, " + what + ")", x.key(0, what), -1);
        }
        due("key(1, 0)", x.key(1, 0), 0);
        CHECKS.says("Of a VERTEX by SEED and SIDE DEGREE (what 0), what it RANKS (1). NONE.");
        for (int what = 0; what <= 1; what++) {
            due("vertex(-1, " + what + ")", x.vertex(-1, what), -1);
            due("vertex(0, " + what + ")", x.vertex(0, what) >= 0 ? 1 : 0, 1);
            due("vertex(11, " + what + ")", x.vertex(11, what) >= 0 ? 1 : 0, 1);
            due("vertex(12, " + what + ")", x.vertex(12, what), -1);
            due("vertex(MIN, " + what + ")", x.vertex(MIN, what), -1);
            due("vertex(MAX, " + what + ")", x.vertex(MAX, what), -1);
        }
        int[] others = {MIN, -1, 2, MAX};
        for (int what : others) {
            due("vertex(0, " + what + ")", x.vertex(0, what), -1);
        }
        due("none of these is refused: count(7)", x.count(7), 0);
        due("status()", x.status(), 0);
    }

    private static void thereAndTerms() {
        CHECKS.says("The i-th KEY that is THERE, rising. NONE.");
        PeeledHash x = Checks.with(999, 0);
        due("there(-1)", x.there(-1), -1);
        due("there(0)", x.there(0), 0);
        due("there(1)", x.there(1), 999);
        due("there(2)", x.there(2), -1);
        due("there(MIN)", x.there(MIN), -1);
        due("there(MAX)", x.there(MAX), -1);
        CHECKS.says("A TERM: what it was. -1.");
        int[][] wrong = {{-1, 0}, {3, 0}, {MIN, 0}, {MAX, 0}, {0, -1}, {0, 1000}, {1, 11}, {2, 10}, {0, MIN}, {2, MAX}};
        for (int[] call : wrong) {
            due("terms(" + call[0] + ", " + call[1] + ")", x.terms(call[0], call[1]), -1);
        }
        due("count(7)", x.count(7), wrong.length);
        due("count(5): what can be undone stays", x.count(5), 2);
        due("terms(1, 1): it was so", x.terms(1, 1), 1);
        due("status()", x.status(), 0);
        due("count(5)", x.count(5), 0);
    }

    private static void ceilingAndTwin() {
        CHECKS.says("`int ceiling(int key)`: CEILING. NONE.");
        PeeledHash x = Checks.with(0, 1, 2, 3);
        due("ceiling(3)", x.ceiling(3), 3);
        due("ceiling(4)", x.ceiling(4), -1);
        due("ceiling(-1)", x.ceiling(-1), 0);
        CHECKS.says("A STRANGER's TWIN. NONE (it was THERE; there is none; no TABLE).");
        due("no table: twin(4)", x.twin(4), -1);
        x.build();
        due("twin(4)", x.twin(4), 3);
        due("it was there: twin(3)", x.twin(3), -1);
        due("there is none: twin(5)", x.twin(5), -1);
        int[] wrong = {MIN, -1, 1000, MAX};
        for (int key : wrong) {
            due("twin(" + key + ")", x.twin(key), -1);
        }
        due("count(7)", x.count(7), 0);
    }

    private static void leastSideAndCompare() {
        CHECKS.says("The LEAST SIDE. NONE (by none).");
        due("without keys", new PeeledHash().leastSide(), 2);
        PeeledHash y = Checks.with(48, 50, 117, 182, 220, 255, 257, 327, 467, 489, 498, 502, 537, 570, 586, 615, 639,
                686, 731, 753, 782, 807, 817, 847, 852, 885, 920, 954, 977, 984);
        due("by none", y.leastSide(), -1);
        y.take(920);
        due("by 20", y.leastSide(), 20);
        CHECKS.says("COMPARED. NONE (no such LAW, VERTEX).");
        PeeledHash x = new PeeledHash();
        for (int i = 0; i < 6; i++) {
            Checks.law(x, "ranks 10 + " + i);
        }
        int[] noLaws = {MIN, -2, 6, MAX};
        int[] noVertices = {MIN, -1, 12, 60, MAX};
        for (int law : noLaws) {
            due("compare(" + law + ", 0)", x.compare(law, 0), -1);
        }
        for (int vertex : noVertices) {
            due("compare(0, " + vertex + ")", x.compare(0, vertex), -1);
            due("compare(-1, " + vertex + ")", x.compare(-1, vertex), -1);
        }
        due("compare(-1, 11)", x.compare(-1, 11), 0);
        due("compare(0, 0)", x.compare(0, 0), 10);
        due("compare(5, 11)", x.compare(5, 11), 15);
        x.side(20);
        due("compare(5, 59)", x.compare(5, 59), 15);
        due("compare(5, 60)", x.compare(5, 60), -1);
        x.side(2);
        due("compare(5, 5)", x.compare(5, 5), 15);
        due("compare(5, 6)", x.compare(5, 6), -1);
        due("none is refused: count(7), count(8)", x.count(7) + x.count(8), 0);
    }

    private static void feedAndEnd() {
        CHECKS.says("Twenty bytes come behind the TAPE, four of each number, the highest first: how many it has. NONE, if there would"
                + " be more than 400.");
        PeeledHash x = new PeeledHash();
        Checks.tape(x, "ranks ");
        // 7+1 comes behind "ranks ", the highest byte of each number first; then blanks.
        due("feed()", x.feed(0x372B3120, 0x20202020, 0x20202020, 0x20202020, 0x20202020), 26);
        due("law()", x.law(), 0);
        due("compare(0, 0)", x.compare(0, 0), 8);
        for (int i = 1; i <= 20; i++) {
            due("feed() no. " + i, x.feed(-1, MIN, MAX, 0, 1), 20 * i);
        }
        due("feed() no. 21", x.feed(0, 0, 0, 0, 0), -1);
        due("count(6)", x.count(6), 400);
        due("end(380)", x.end(380), 380);
        due("feed()", x.feed(0, 0, 0, 0, 0), 400);
        due("end(381)", x.end(381), 381);
        due("feed()", x.feed(0, 0, 0, 0, 0), -1);
        CHECKS.says("The TAPE has its first n bytes alone: n. NONE, if it has not so many, or n is below 0.");
        due("end(382)", x.end(382), -1);
        due("end(381)", x.end(381), 381);
        due("end(-1)", x.end(-1), -1);
        due("end(MIN)", x.end(MIN), -1);
        due("end(MAX)", x.end(MAX), -1);
        due("count(6)", x.count(6), 381);
        due("end(0)", x.end(0), 0);
        due("end(0) of nothing", x.end(0), 0);
        due("end(1) of nothing", x.end(1), -1);
        due("none of these is refused: count(7)", x.count(7), 0);
        Checks.tape(x, "ranks 5;ranks 6");
        x.end(7);
        x.law();
        due("the first n bytes alone", x.compare(1, 0), 5);
    }

    private static void rowAndBlanks() {
        CHECKS.says("A ROW, the TAPE is empty then: how many were ADDED. -6 the TAPE is empty.");
        CHECKS.says("How many BLANKS the latest row() had that was not REFUSED (0 ahead of any).");
        PeeledHash x = new PeeledHash();
        due("blanks() ahead of any", x.blanks(), 0);
        due("row() of nothing", x.row(), -6);
        due("blanks() ahead of any that was not refused", x.blanks(), 0);
        Checks.tape(x, "\0");
        due("row() of one byte", x.row(), 0);
        due("blanks()", x.blanks(), 1);
        due("count(6)", x.count(6), 0);
        due("row() of nothing", x.row(), -6);
        due("blanks() of the latest that was not refused", x.blanks(), 1);
        Checks.tape(x, "\0\1");
        due("row() of two bytes", x.row(), 1);
        due("blanks()", x.blanks(), 0);
        x.feed(0, 0, 0, 0, 0);
        x.end(0);
        due("row() of a tape that was cut to nothing", x.row(), -6);
        due("count(11)", x.count(11), 3);
    }

    private static void law() {
        CHECKS.says("The TAPE, which is empty then, becomes a LAW: its number. -5 (ahead of reading it; the TAPE is empty then, too);"
                + " -6 (blanks alone: FAULT at the end). It leaves what can be undone.");
        PeeledHash x = Checks.with(1, 2);
        due("law() of nothing", x.law(), -6);
        due("fault()", x.fault(), 0);
        due("one blank", Checks.law(x, " "), -6);
        due("fault()", x.fault(), 1);
        due("400 blanks", Checks.law(x, " ".repeat(400)), -6);
        due("fault()", x.fault(), 400);
        due("count(6)", x.count(6), 0);
        due("count(4)", x.count(4), 0);
        for (int i = 0; i < 6; i++) {
            due("law no. " + i, Checks.law(x, "bars"), i);
            due("count(6)", x.count(6), 0);
        }
        Checks.law(x, "ranks 1 1");
        due("count(11): the 7th was not read", x.count(11), 3);
        due("count(10)", x.count(10), 1);
        due("status()", x.status(), -5);
        due("fault() of the latest that was read", x.fault(), -1);
        due("count(6): empty then, too", x.count(6), 0);
        due("it leaves what can be undone: count(5)", x.count(5), 2);
        due("undo()", x.undo(), 0);
    }

    private static void orders() {
        CHECKS.says("ORDERS, the TAPE is empty then: how many were run. -3 one can't be; -6 (as for law()).");
        PeeledHash x = Checks.with(1, 2);
        due("orders() of nothing", x.orders(), -6);
        due("fault()", x.fault(), 0);
        due("400 blanks", Checks.orders(x, " ".repeat(400)), -6);
        due("fault()", x.fault(), 400);
        due("count(6)", x.count(6), 0);
        due("none is run", Checks.orders(x, "build if 1=2"), 0);
        due("status()", x.status(), 0);
        due("count(6)", x.count(6), 0);
        due("one can't be", Checks.orders(x, "build;add 1"), -3);
        due("count(6)", x.count(6), 0);
        due("count(13)", x.count(13), 0);
        due("240 are run", Checks.orders(x, Checks.repeated("build times 20", 12, ";")), 240);
        due("six laws do not matter", x.count(4), 0);
        for (int i = 0; i < 6; i++) {
            Checks.law(x, "bars");
        }
        due("one is run", Checks.orders(x, "build"), 1);
    }

    private static void faultAndStopped() {
        CHECKS.says("FAULT of the latest law(), orders() that read a TEXT: its place; NONE without.");
        PeeledHash x = new PeeledHash();
        due("fault() ahead of any", x.fault(), -1);
        Checks.law(x, "ranks");
        due("fault() of a law", x.fault(), 5);
        x.feed(0, 0, 0, 0, 0);
        x.row();
        x.add(5);
        due("other calls leave it", x.fault(), 5);
        Checks.orders(x, "ad");
        due("fault() of orders", x.fault(), 0);
        Checks.law(x, "ranks 1");
        due("fault() of a law without one", x.fault(), -1);
        Checks.law(x, "ranks 1 ?");
        Checks.orders(x, "take 9");
        due("fault() of orders without one, though one can't be", x.fault(), -1);
        CHECKS.says("Which CLAUSE of the latest orders() could not be. NONE.");
        due("stopped()", x.stopped(), 0);
        Checks.orders(x, Checks.repeated("build", 11, ";") + ";take 9");
        due("stopped() at the 12th", x.stopped(), 11);
        Checks.law(x, "?");
        due("a law leaves it", x.stopped(), 11);
        Checks.orders(x, "build if 1=2");
        due("stopped() of orders that can be", x.stopped(), -1);
        Checks.orders(x, "build;take 9");
        due("stopped()", x.stopped(), 1);
        Checks.orders(x, "build;take");
        due("stopped() of orders with a fault", x.stopped(), -1);
        due("stopped() ahead of any", new PeeledHash().stopped(), -1);
    }

    private static void force() {
        CHECKS.says("A LAW is in FORCE (NONE: none): which was. -2. It leaves what can be undone.");
        PeeledHash x = Checks.with(1);
        due("force(-1) without laws", x.force(-1), -1);
        due("status()", x.status(), 0);
        due("force(0) without laws", x.force(0), -2);
        Checks.law(x, "bars");
        due("force(0)", x.force(0), -1);
        due("force(1)", x.force(1), -2);
        due("force(-2)", x.force(-2), -2);
        due("force(MIN)", x.force(MIN), -2);
        due("force(MAX)", x.force(MAX), -2);
        due("count(12)", x.count(12), 0);
        due("force(0), it is so", x.force(0), 0);
        for (int i = 1; i < 6; i++) {
            Checks.law(x, "ranks 1");
        }
        due("force(5)", x.force(5), 0);
        due("force(6)", x.force(6), -2);
        due("force(-1)", x.force(-1), 5);
        due("count(12)", x.count(12), -1);
        due("count(5)", x.count(5), 1);
        due("count(8)", x.count(8), 6);
    }

    private static void addAndTake() {
        CHECKS.says("To ADD: how many are THERE then. -1; -3 (THERE; BARRED); -5.");
        PeeledHash x = new PeeledHash();
        int[] wrong = {MIN, -1, 1000, MAX};
        for (int key : wrong) {
            due("add(" + key + ")", x.add(key), -1);
            due("take(" + key + ")", x.take(key), -1);
        }
        due("add(0)", x.add(0), 1);
        due("add(999)", x.add(999), 2);
        due("add(0)", x.add(0), -3);
        for (int key = 500; key < 528; key++) {
            x.add(key);
        }
        due("count(0)", x.count(0), 30);
        due("add(600)", x.add(600), -5);
        due("add(999)", x.add(999), -3);
        CHECKS.says("To TAKE: how many are THERE then. -1; -3 it is not THERE.");
        due("take(600)", x.take(600), -3);
        due("take(0)", x.take(0), 29);
        due("take(0)", x.take(0), -3);
        due("take(999)", x.take(999), 28);
        for (int key = 500; key < 527; key++) {
            x.take(key);
        }
        due("the last of all", x.take(527), 0);
        due("take(527)", x.take(527), -3);
    }

    private static void sideAndSeed() {
        CHECKS.says("Another SIDE: what it was. -1; -3 it is so.");
        PeeledHash x = new PeeledHash();
        int[] sides = {MIN, -1, 0, 1, 21, MAX};
        for (int side : sides) {
            due("side(" + side + ")", x.side(side), -1);
        }
        due("side(4)", x.side(4), -3);
        due("side(2)", x.side(2), 4);
        due("side(2)", x.side(2), -3);
        due("side(20)", x.side(20), 2);
        CHECKS.says("Another SEED: what it was. -1; -3 it is so.");
        int[] seeds = {MIN, -1, 256, MAX};
        for (int seed : seeds) {
            due("seed(" + seed + ")", x.seed(seed), -1);
        }
        due("seed(0)", x.seed(0), -3);
        due("seed(255)", x.seed(255), 0);
        due("seed(255)", x.seed(255), -3);
        due("seed(254)", x.seed(254), 255);
        due("count(7)", x.count(7), sides.length + seeds.length);
        due("count(9)", x.count(9), 4);
    }

    private static void build() {
        CHECKS.says("To BUILD: how many SEEDS were tried that left a CORE. -3.");
        PeeledHash x = Checks.with(0, 1, 2, 3, 4, 5, 6, 7, 8, 9);
        due("build()", x.build(), 7);
        due("build() again", x.build(), 0);
        x.add(10);
        due("build()", x.build(), -3);
        due("status()", x.status(), -3);
    }

    private static void undo() {
        CHECKS.says("The latest add(), take(), side(), seed(), build() (by ORDERS, too; 16 are kept) is undone (KEYS, SIDE, SEED, the"
                + " TABLE, TIME are as they were): 0 .. 4.");
        PeeledHash x = new PeeledHash();
        due("undo() of nothing", x.undo(), -3);
        for (int i = 1; i <= 15; i++) {
            x.add(i);
        }
        due("count(5)", x.count(5), 15);
        x.add(16);
        due("count(5)", x.count(5), 16);
        x.add(17);
        due("count(5): 16 are kept", x.count(5), 16);
        for (int i = 0; i < 16; i++) {
            due("undo() no. " + i, x.undo(), 0);
        }
        due("undo() of what is not kept", x.undo(), -3);
        due("the first stays: count(0)", x.count(0), 1);
        due("there(0)", x.there(0), 1);
        int[] kinds = {0, 1, 2, 3, 4};
        PeeledHash y = Checks.with(7);
        y.take(7);
        y.side(20);
        y.seed(255);
        y.build();
        for (int i = 4; i >= 0; i--) {
            due("undo()", y.undo(), kinds[i]);
            due("count(5)", y.count(5), i);
        }
        due("undo()", y.undo(), -3);
        PeeledHash z = Checks.with(0, 1);
        due("15 behind two", Checks.orders(z, "add 10 + done times 15"), 15);
        due("count(5)", z.count(5), 16);
        for (int i = 0; i < 16; i++) {
            due("undo()", z.undo(), 0);
        }
        due("undo()", z.undo(), -3);
        due("count(0)", z.count(0), 1);
        PeeledHash w = new PeeledHash();
        due("17 by orders", Checks.orders(w, "add done times 17"), 17);
        due("count(5)", w.count(5), 16);
        Checks.orders(w, "take 0 times 2");
        due("orders that can't be leave it: count(5)", w.count(5), 16);
        due("undo()", w.undo(), 0);
        due("key(16, 0)", w.key(16, 0), 0);
        PeeledHash v = new PeeledHash();
        Checks.orders(v, "add 1;add 2;add 2");
        due("none of those that were gone back to is kept: count(5)", v.count(5), 0);
        Checks.orders(v, "add 3");
        due("count(5)", v.count(5), 1);
        Checks.orders(v, "side 5;seed 6");
        due("behind the one of earlier orders: count(5)", v.count(5), 3);
        due("undo()", v.undo(), 3);
        due("undo()", v.undo(), 2);
        due("undo()", v.undo(), 0);
        due("undo()", v.undo(), -3);
        due("undo() that answers 0 is not refused: count(9)", v.count(9), 2);
        due("count(7), count(8), count(10), count(11)", v.count(7) + v.count(8) + v.count(10) + v.count(11), 0);
    }

    /** All of a table is as it was: the keys by which twins are told, too. */
    private static void tablesComeBack() {
        CHECKS.says("(KEYS, SIDE, SEED, the TABLE, TIME are as they were)");
        PeeledHash x = Checks.with(0, 1, 2, 3);
        x.build();
        x.image(0);
        int[] before = new int[20];
        for (int key = 0; key < 20; key++) {
            before[key] = x.twin(key) * 1000 + x.found(key, 1) * 100 + x.found(key, 2);
        }
        due("number 3: twin(4)", x.twin(4), 3);
        x.add(4);
        x.add(5);
        x.take(3);
        x.side(9);
        x.seed(33);
        x.build();
        due("it was there: twin(4)", x.twin(4), -1);
        due("table(2)", x.table(2), 5);
        due("undo()", x.undo(), 4);
        for (int key = 0; key < 20; key++) {
            due("undone: " + key, x.twin(key) * 1000 + x.found(key, 1) * 100 + x.found(key, 2), before[key]);
        }
        due("undo()", x.undo(), 3);
        due("build()", x.build(), 0);
        due("back(0)", x.back(0), 0);
        for (int key = 0; key < 20; key++) {
            due("back: " + key, x.twin(key) * 1000 + x.found(key, 1) * 100 + x.found(key, 2), before[key]);
        }
    }

    private static void undoEnds() {
        CHECKS.says("-3 there is none (nothing that was ahead of a terms(), row(), back() that was not REFUSED can be undone).");
        PeeledHash x = Checks.with(1, 2);
        x.terms(0, 1000);
        x.row();
        x.back(0);
        x.back(2);
        due("refused ones leave it: count(5)", x.count(5), 2);
        x.terms(0, 0);
        due("terms(): undo()", x.undo(), -3);
        x.add(3);
        due("what comes behind it: undo()", x.undo(), 0);
        x.add(3);
        Checks.tape(x, "\0");
        x.row();
        due("row(): undo()", x.undo(), -3);
        x.add(4);
        x.image(0);
        due("image() leaves it: count(5)", x.count(5), 1);
        x.back(0);
        due("back(): undo()", x.undo(), -3);
        due("count(0)", x.count(0), 4);
        x.add(6);
        x.seen(0, 0);
        x.forget();
        Checks.law(x, "bars");
        x.force(0);
        x.years(0, 60);
        x.feed(0, 0, 0, 0, 0);
        x.end(0);
        due("barred: add(5)", x.add(5), -3);
        due("others leave it: undo()", x.undo(), 0);
        due("count(0)", x.count(0), 4);
    }

    private static void coreAndPeeled() {
        CHECKS.says("How many KEYS the CORE of a SEED has. NONE.");
        PeeledHash x = Checks.with(0, 1, 2, 3, 4, 5, 6, 7, 8, 9);
        int[] wrong = {MIN, -1, 256, MAX};
        for (int seed : wrong) {
            due("core(" + seed + ")", x.core(seed), -1);
        }
        due("core(0)", x.core(0), 9);
        due("core(255)", x.core(255) > 0 ? 1 : 0, 1);
        due("core(7)", x.core(7), 0);
        due("the seed stays: count(2)", x.count(2), 0);
        CHECKS.says("Of what is PEELED by SEED the i-th KEY that leaves (what 0), its FREE VERTEX (1). NONE (not so many).");
        x.seed(7);
        for (int what = 0; what <= 1; what++) {
            due("peeled(-1, " + what + ")", x.peeled(-1, what), -1);
            due("peeled(0, " + what + ")", x.peeled(0, what) >= 0 ? 1 : 0, 1);
            due("peeled(9, " + what + ")", x.peeled(9, what) >= 0 ? 1 : 0, 1);
            due("peeled(10, " + what + ")", x.peeled(10, what), -1);
            due("peeled(MIN, " + what + ")", x.peeled(MIN, what), -1);
            due("peeled(MAX, " + what + ")", x.peeled(MAX, what), -1);
        }
        int[] others = {MIN, -1, 2, MAX};
        for (int what : others) {
            due("peeled(0, " + what + ")", x.peeled(0, what), -1);
        }
    }

    private static void good() {
        CHECKS.says("GOOD SEEDS: how many (i NONE), the i-th, rising. NONE.");
        PeeledHash x = Checks.with(0, 1, 2, 3, 4, 5, 6, 7, 8, 9);
        due("good(MIN)", x.good(MIN), -1);
        due("good(-2)", x.good(-2), -1);
        due("good(-1)", x.good(-1), 2);
        due("good(0)", x.good(0), 7);
        due("good(1)", x.good(1), 10);
        due("good(2)", x.good(2), -1);
        due("good(MAX)", x.good(MAX), -1);
    }

    private static void foundAndTable() {
        CHECKS.says("By the TABLE of a KEY its OWN VERTEX (what 0), NUMBER (1), PLACE (2). NONE (no TABLE).");
        PeeledHash x = Checks.with(0, 1, 2, 3);
        for (int what = 0; what <= 2; what++) {
            due("no table: found(0, " + what + ")", x.found(0, what), -1);
        }
        x.build();
        for (int what = 0; what <= 2; what++) {
            due("found(-1, " + what + ")", x.found(-1, what), -1);
            due("found(0, " + what + ")", x.found(0, what), 0);
            due("found(999, " + what + ")", x.found(999, what) >= 0 ? 1 : 0, 1);
            due("found(1000, " + what + ")", x.found(1000, what), -1);
            due("found(MIN, " + what + ")", x.found(MIN, what), -1);
            due("found(MAX, " + what + ")", x.found(MAX, what), -1);
        }
        int[] wrong = {MIN, -1, 3, MAX};
        for (int what : wrong) {
            due("found(0, " + what + ")", x.found(0, what), -1);
        }
        CHECKS.says("Of the TABLE SIDE (what 0), SEED (1), how many KEYS (2), how many SIGNS that are not 3 (3),");
        int[] first = {4, 0, 4, 4};
        for (int what = 0; what < 4; what++) {
            due("table(" + what + ")", x.table(what), first[what]);
        }
        CHECKS.says("the SIGN of VERTEX v (4 + v), BYTE i PACKED (64 + i, i 0 .. 14). NONE (no TABLE, no such VERTEX, BYTE).");
        x.side(20);
        x.build();
        due("table(-1)", x.table(-1), -1);
        due("table(0)", x.table(0), 20);
        due("table(3)", x.table(3), 4);
        due("the first vertex: table(4)", x.table(4) >= 0 && x.table(4) <= 3 ? 1 : 0, 1);
        due("the last vertex: table(63)", x.table(63) >= 0 && x.table(63) <= 3 ? 1 : 0, 1);
        due("the first byte: table(64)", x.table(64) >= 0 ? 1 : 0, 1);
        due("the last byte: table(78)", x.table(78) >= 0 ? 1 : 0, 1);
        due("table(79)", x.table(79), -1);
        due("table(MIN)", x.table(MIN), -1);
        due("table(MAX)", x.table(MAX), -1);
        // Four times what is behind 64 would go round here.
        due("table(64 + 1073741824)", x.table(64 + 1073741824), -1);
        due("table(64 + 536870912)", x.table(64 + 536870912), -1);
    }

    private static void seenAndForget() {
        CHECKS.says("SEEN: how often there was. -1 (VERTEX 0 .. 59, is 1, 0); -5. It leaves what can be undone.");
        PeeledHash x = Checks.with(1);
        int[][] wrong = {{-1, 0}, {60, 0}, {MIN, 0}, {MAX, 1}, {0, -1}, {0, 2}, {0, MIN}, {0, MAX}};
        for (int[] call : wrong) {
            due("seen(" + call[0] + ", " + call[1] + ")", x.seen(call[0], call[1]), -1);
        }
        due("count(3)", x.count(3), 0);
        due("seen(0, 0)", x.seen(0, 0), 1);
        due("seen(59, 1)", x.seen(59, 1), 2);
        due("seen(59, 1) again", x.seen(59, 1), 3);
        due("seen(0, 1)", x.seen(0, 1), 4);
        due("seen(0, 1)", x.seen(0, 1), 5);
        due("seen(0, 1)", x.seen(0, 1), 6);
        due("seen(0, 1)", x.seen(0, 1), -5);
        due("count(5)", x.count(5), 1);
        CHECKS.says("SEEN is nothing then: how often there was.");
        due("forget()", x.forget(), 6);
        due("forget()", x.forget(), 0);
        due("canBe(-1)", x.canBe(-1), 1);
        due("seen(0, 0)", x.seen(0, 0), 1);
        due("count(5)", x.count(5), 1);
    }

    private static void canBeAndAsk() {
        CHECKS.says("IT CAN BE: how many (i NONE), the i-th, rising. NONE.");
        PeeledHash x = Checks.with(999, 500, 0);
        due("canBe(MIN)", x.canBe(MIN), -1);
        due("canBe(-2)", x.canBe(-2), -1);
        due("canBe(-1)", x.canBe(-1), 3);
        due("canBe(0)", x.canBe(0), 0);
        due("canBe(2)", x.canBe(2), 999);
        due("canBe(3)", x.canBe(3), -1);
        due("canBe(MAX)", x.canBe(MAX), -1);
        CHECKS.says("To ASK for, of the VERTICES there are: the VERTEX (what 0), how many KEYS are left at most (1). NONE (it can be"
                + " none).");
        due("ask(MIN)", x.ask(MIN), -1);
        due("ask(-1)", x.ask(-1), -1);
        due("ask(0)", x.ask(0) >= 0 && x.ask(0) < 12 ? 1 : 0, 1);
        due("ask(1)", x.ask(1), 2);
        due("ask(2)", x.ask(2), -1);
        due("ask(MAX)", x.ask(MAX), -1);
        x.seen(59, 1);
        due("it can be none: ask(0)", x.ask(0), -1);
        due("it can be none: ask(1)", x.ask(1), -1);
        due("without keys: ask(0)", new PeeledHash().ask(0), -1);
        PeeledHash full = new PeeledHash();
        full.side(2);
        for (int key = 0; full.count(0) < 30; key++) {
            if (full.key(key, 2) == 0) {
                full.add(key);
            }
        }
        due("canBe(29)", full.canBe(29) >= 0 ? 1 : 0, 1);
        due("canBe(30)", full.canBe(30), -1);
        full.seen(0, 1);
        due("all have 0: canBe(-1)", full.canBe(-1), 30);
        full.seen(1, 1);
        due("no key has two of a part: canBe(-1)", full.canBe(-1), 0);
    }

    private static void few() {
        CHECKS.says("FEW, k 1 .. 20, n 0 .. 99. NONE.");
        PeeledHash x = new PeeledHash();
        int[][] wrong = {{0, 5}, {21, 5}, {-1, 5}, {MIN, 5}, {MAX, 5}, {5, -1}, {5, 100}, {5, MIN}, {5, MAX}};
        for (int[] call : wrong) {
            due("few(" + call[0] + ", " + call[1] + ")", x.few(call[0], call[1]), -1);
        }
        due("few(1, 0)", x.few(1, 0), 1000000000000L);
        due("few(20, 0)", x.few(20, 0), 1000000000000L);
        due("few(1, 99)", x.few(1, 99) > 0 && x.few(1, 99) < 30000000L ? 1 : 0, 1);
        due("few(20, 99)", x.few(20, 99) > 990000000000L ? 1 : 0, 1);
        due("none is refused: count(7)", x.count(7), 0);
    }

    private static void years() {
        CHECKS.says("YEARS, kept as the latest: how many KEYS are THERE behind them. -1.");
        PeeledHash x = Checks.with(0, 1, 2, 3);
        int[][] wrong = {{-1, 1}, {1000001, 1}, {0, 0}, {0, 61}, {-1, 0}, {MIN, MIN}, {MAX, MAX}};
        for (int[] call : wrong) {
            due("years(" + call[0] + ", " + call[1] + ")", x.years(call[0], call[1]), -1);
        }
        due("count(7)", x.count(7), wrong.length);
        due("years(0, 1)", x.years(0, 1), 5);
        due("status()", x.status(), 0);
        due("years(1000000, 60)", x.years(1000000, 60) >= 0 ? 1 : 0, 1);
        due("count(0)", x.count(0), 4);
    }

    private static void drawn() {
        CHECKS.says("Behind the latest YEARS the NUMBER of KEY k 0 .. 39 by the TABLE. NONE (no TABLE; ahead of any).");
        PeeledHash x = Checks.with(0, 1, 2, 3);
        x.build();
        due("ahead of any: drawn(0)", x.drawn(0), -1);
        due("ahead of any that was not refused", x.years(0, 61) + x.drawn(0), -2);
        x.years(0, 1);
        due("drawn(-1)", x.drawn(-1), -1);
        due("drawn(0)", x.drawn(0), 0);
        due("drawn(3)", x.drawn(3), 3);
        due("drawn(39)", x.drawn(39), x.found(39, 1));
        due("drawn(40)", x.drawn(40), -1);
        due("drawn(MIN)", x.drawn(MIN), -1);
        due("drawn(MAX)", x.drawn(MAX), -1);
        x.years(-1, 1);
        due("refused years leave it: drawn(3)", x.drawn(3), 3);
        x.undo();
        due("undo() leaves it: drawn(3)", x.drawn(3), 3);
        x.years(0, 1);
        due("no table: drawn(3)", x.drawn(3), -1);
    }

    private static void imageAndBack() {
        CHECKS.says("IMAGE k is kept: 0; -1.");
        CHECKS.says("BACK to IMAGE k: 0. -1; -2 it was not kept.");
        PeeledHash x = new PeeledHash();
        int[] wrong = {MIN, -1, 2, MAX};
        for (int k : wrong) {
            due("image(" + k + ")", x.image(k), -1);
            due("back(" + k + ")", x.back(k), -1);
        }
        due("back(0)", x.back(0), -2);
        due("back(1)", x.back(1), -2);
        due("image(1)", x.image(1), 0);
        due("back(0)", x.back(0), -2);
        due("back(1)", x.back(1), 0);
        due("image(0)", x.image(0), 0);
        due("back(0)", x.back(0), 0);
        due("count(7)", x.count(7), 8);
        due("count(8)", x.count(8), 3);
    }

    private static void count() {
        CHECKS.says("0 KEYS that are THERE, 1 SIDE, 2 SEED, 3 SEEN, 4 LAWS, 5 how many can be undone, 6 bytes of the TAPE");
        PeeledHash most = new PeeledHash();
        most.terms(0, 999);
        most.terms(1, 10);
        most.terms(2, 9);
        most.side(20);
        most.seed(255);
        for (int key = 0; key < 30; key++) {
            most.add(key);
        }
        for (int i = 0; i < 6; i++) {
            most.seen(0, 0);
            Checks.law(most, "bars");
        }
        most.force(5);
        Checks.tape(most, " ".repeat(400));
        int[] full = {30, 20, 255, 6, 6, 16, 400, 0, 0, 0, 0, 0, 5, 999, 10, 9};
        for (int what = 0; what < full.length; what++) {
            due("at the most: count(" + what + ")", most.count(what), full[what]);
        }
        CHECKS.says("12 the LAW in FORCE, 13 .. 15 TERMS 0 .. 2. NONE for others.");
        PeeledHash x = new PeeledHash();
        int[] wrong = {MIN, -1, 16, MAX};
        for (int what : wrong) {
            due("count(" + what + ")", x.count(what), -1);
        }
        int[] first = {0, 4, 0, 0, 0, 0, 0, 0, 0, 0, 0, 0, -1, 0, 1, 0};
        for (int what = 0; what < 16; what++) {
            due("count(" + what + ")", x.count(what), first[what]);
        }
        CHECKS.says("7 .. 11 how many calls were REFUSED by -1, -2, -3, -5, -6 (IMAGES do not keep that)");
        x.image(0);
        x.add(-1);
        x.force(0);
        x.undo();
        for (int i = 0; i < 7; i++) {
            x.seen(0, 0);
        }
        x.row();
        for (int what = 7; what <= 11; what++) {
            due("count(" + what + ")", x.count(what), 1);
        }
        x.back(0);
        for (int what = 7; what <= 11; what++) {
            due("count(" + what + ") behind back()", x.count(what), 1);
        }
    }

    private static void status() {
        CHECKS.says("What the latest call of terms, row, law, orders, force, add, take, side, seed, build, undo, seen, years, image,"
                + " back was REFUSED by; 0 if it was not, or ahead of any.");
        PeeledHash x = new PeeledHash();
        due("ahead of any", x.status(), 0);
        x.key(-1, 0);
        x.feed(0, 0, 0, 0, 0);
        x.end(-1);
        x.core(-1);
        x.few(0, 0);
        due("ahead of any of these", x.status(), 0);
        x.add(-1);
        due("add(-1)", x.status(), -1);
        x.forget();
        x.end(0);
        due("forget(), end() leave it", x.status(), -1);
        x.row();
        due("row()", x.status(), -6);
        x.undo();
        due("undo()", x.status(), -3);
        x.force(9);
        due("force(9)", x.status(), -2);
        x.image(0);
        due("image(0)", x.status(), 0);
        for (int i = 0; i < 7; i++) {
            x.seen(0, 0);
        }
        due("the 7th seen()", x.status(), -5);
        x.force(-1);
        due("force(-1), which answers -1 and is not refused", x.status(), 0);
    }
}
