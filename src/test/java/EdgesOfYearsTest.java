/** The edges that Terms IV of the document names: years and their draws, rows, images. */
public final class EdgesOfYearsTest {
    private static final Checks CHECKS = new Checks();
    /** The first sowings by which the first draw of one year is key 0 or 39 and the second is 0, 1, .. 7. */
    private static final int[][] SOWINGS = {{465, 178}, {265, 18}, {105, 298}, {385, 138}, {225, 418}, {25, 258}, {345, 58},
        {145, 378}};

    public static void main(String[] args) {
        numbers();
        draws();
        deeds();
        eachIfItCanBe();
        onPaper();
        rows();
        blanks();
        images();
        seenOfImages();
        whatImagesLeaveOut();
        CHECKS.finish("EdgesOfYearsTest");
    }

    private static void due(String call, long got, long want) {
        CHECKS.due(call, got, want);
    }

    private static void numbers() {
        CHECKS.says("YEARS with a SOWING, n 1 .. 60, on paper: s is the SOWING (0 .. 1,000,000)");
        PeeledHash x = new PeeledHash();
        due("years(-1, 1)", x.years(-1, 1), -1);
        due("years(0, 1)", x.years(0, 1), 1);
        due("years(1000000, 1)", x.years(1000000, 1), 1);
        due("years(1000001, 1)", x.years(1000001, 1), -1);
        due("years(0, 0)", x.years(0, 0), -1);
        due("years(0, 60)", x.years(0, 60) > 1 ? 1 : 0, 1);
        due("years(0, 61)", x.years(0, 61), -1);
        due("years(MIN, 1)", x.years(Integer.MIN_VALUE, 1), -1);
        due("years(MAX, 1)", x.years(Integer.MAX_VALUE, 1), -1);
        due("years(0, MIN)", x.years(0, Integer.MIN_VALUE), -1);
        due("years(0, MAX)", x.years(0, Integer.MAX_VALUE), -1);
        due("count(7)", x.count(7), 8);
    }

    /** Whether one year from that sowing adds that key. */
    private static void adds(int sowing, int key) {
        due("years(" + sowing + ", 1)", new PeeledHash().years(sowing, 1), 1);
        due("years(" + sowing + ", 1), " + key + " is there", Checks.with(key).years(sowing, 1), 1);
        due("years(" + sowing + ", 1), another is there", Checks.with(key + 1).years(sowing, 1), 2);
    }

    private static void draws() {
        CHECKS.says("a DRAW of m: s becomes (s times 1103 and 12345) modulo 1,000,003, it is s modulo m.");
        // 12345, then 628841; -3309 and 12345: 9036, then 979026.
        adds(0, 12345 % 40);
        adds(1000000, 9036 % 40);
        // The highest s that can be, 1,000,002, then 11242; the lowest, 0, then 12345.
        adds(327279, 1000002 % 40);
        adds(870345, 0);
    }

    private static void deeds() {
        CHECKS.says("Each time DRAWS of 40, of 8, whatever comes of them: at 0 .. 4 (the last DRAW) that KEY (the first) is ADDED, at 5"
                + " it is TAKEN, at 6, 7 all is BUILT, each if it can be.");
        int[] keys = {0, 39};
        for (int deed = 0; deed < 8; deed++) {
            for (int i = 0; i < 2; i++) {
                int sowing = SOWINGS[deed][i];
                PeeledHash without = Checks.with(500);
                due("deed " + deed + ", not there", without.years(sowing, 1), deed <= 4 ? 2 : 1);
                due("deed " + deed + ", a table", without.drawn(0) == -1 ? 0 : 1, deed >= 6 ? 1 : 0);
                PeeledHash there = Checks.with(500, keys[i]);
                due("deed " + deed + ", there", there.years(sowing, 1), deed == 5 ? 1 : 2);
                due("deed " + deed + ", a table", there.drawn(0) == -1 ? 0 : 1, deed >= 6 ? 1 : 0);
            }
        }
    }

    private static void eachIfItCanBe() {
        PeeledHash full = new PeeledHash();
        for (int key = 100; key < 130; key++) {
            full.add(key);
        }
        due("no room", full.years(SOWINGS[0][0], 1), 30);
        full.take(100);
        due("room", full.years(SOWINGS[0][0], 1), 30);
        PeeledHash barred = new PeeledHash();
        Checks.law(barred, "bars if key = 39");
        barred.force(0);
        due("barred", barred.years(SOWINGS[0][1], 1), 0);
        due("not barred", barred.years(SOWINGS[0][0], 1), 1);
        PeeledHash core = Checks.with(0, 1, 2, 3, 4, 5, 6, 7, 8, 9, 10);
        due("no seed is good", core.years(SOWINGS[6][0], 1), 11);
        due("no table", core.drawn(0), -1);
        core.take(10);
        due("a seed is good", core.years(SOWINGS[6][0], 1), 10);
        due("a table", core.drawn(0) >= 0 ? 1 : 0, 1);
        due("status()", core.status(), 0);
    }

    private static void onPaper() {
        PeeledHash x = Checks.with(0, 1, 2, 3);
        x.terms(0, 999);
        x.add(4);
        due("years(7, 60)", x.years(7, 60) >= 0 ? 1 : 0, 1);
        int[] counts = {5, 4, 0, 0, 0, 1, 0, 0, 0, 0, 0, 0, -1, 999, 1, 0};
        for (int what = 0; what < counts.length; what++) {
            due("count(" + what + ")", x.count(what), counts[what]);
        }
        due("table(0)", x.table(0), -1);
        due("undo()", x.undo(), 0);
    }

    private static void rows() {
        CHECKS.says("A ROW: the TAPE's bytes by twos: the KEY that is the first one times 4 and the second one: ADDED; one that can't"
                + " be, one within which the TAPE ends is a BLANK: nothing.");
        row("\0\0", 1, 0, 0);
        row("\0\377", 1, 0, 255);
        row("\371\3", 1, 0, 999);
        row("\371\4", 0, 1, -1);
        row("\372\0", 0, 1, -1);
        row("\271\377", 1, 0, 995);
        row("\272\377", 1, 0, 999);
        row("\273\377", 0, 1, -1);
        row("\377\377", 0, 1, -1);
        row("\7", 0, 1, -1);
        row("\0\5\0", 1, 1, 5);
        row("\0\5\1\1", 1, 1, 5);
        StringBuilder most = new StringBuilder();
        for (int i = 0; i < 200; i++) {
            most.append((char) 0).append((char) i);
        }
        PeeledHash x = new PeeledHash();
        due("tape of 400", Checks.tape(x, most.toString()), 400);
        due("row() of 200 keys", x.row(), 30);
        due("blanks()", x.blanks(), 170);
        due("there(29)", x.there(29), 29);
        due("there(30)", x.there(30), -1);
        PeeledHash y = new PeeledHash();
        Checks.tape(y, most.toString());
        due("end(399)", y.end(399), 399);
        due("row() of 199 keys and a half", y.row(), 30);
        due("blanks()", y.blanks(), 170);
    }

    private static void row(String bytes, int added, int blanks, int first) {
        PeeledHash x = new PeeledHash();
        Checks.tape(x, bytes);
        due("row() of " + bytes.length() + " bytes, the first " + (int) bytes.charAt(0), x.row(), added);
        due("blanks()", x.blanks(), blanks);
        due("there(0)", x.there(0), first);
        due("count(6)", x.count(6), 0);
        due("status()", x.status(), 0);
    }

    private static void blanks() {
        PeeledHash x = Checks.with(1);
        Checks.law(x, "bars if key = 2");
        x.force(0);
        Checks.tape(x, "\0\1\0\2\0\3\0\3\377\377\0");
        due("row()", x.row(), 1);
        due("there, barred, there by then, no key, a half: blanks()", x.blanks(), 5);
        due("count(0)", x.count(0), 2);
        due("count(9): blanks are not refused", x.count(9), 0);
        due("count(7)", x.count(7), 0);
    }

    private static void images() {
        CHECKS.says("IMAGES 0, 1 keep all but the TAPE, FAULT, BLANKS, where ORDERS stopped, what can be undone (nothing, behind"
                + " back()), the latest YEARS; BACK to one all that it keeps is as it was then (IMAGES stay).");
        PeeledHash x = Checks.with(1);
        due("image(-1)", x.image(-1), -1);
        due("image(2)", x.image(2), -1);
        due("back(0) of none", x.back(0), -2);
        due("back(1) of none", x.back(1), -2);
        due("image(0)", x.image(0), 0);
        due("back(1) of none", x.back(1), -2);
        x.add(2);
        due("image(1)", x.image(1), 0);
        x.add(3);
        due("back(-1)", x.back(-1), -1);
        due("back(2)", x.back(2), -1);
        due("count(0)", x.count(0), 3);
        due("count(5)", x.count(5), 3);
        due("back(0)", x.back(0), 0);
        due("count(0)", x.count(0), 1);
        due("nothing can be undone: count(5)", x.count(5), 0);
        due("undo()", x.undo(), -3);
        due("back(1)", x.back(1), 0);
        due("count(0)", x.count(0), 2);
        x.add(9);
        due("undo() of what came behind", x.undo(), 0);
        due("images stay: back(0)", x.back(0), 0);
        due("count(0)", x.count(0), 1);
    }

    /** 0: 0, 5, 10; 1: 1, 4, 11; 2: 2, 7, 11; 3: 2, 5, 8. */
    private static void seenOfImages() {
        PeeledHash x = Checks.with(0, 1, 2, 3);
        x.image(1);
        x.seen(2, 1);
        x.seen(8, 0);
        x.image(0);
        due("canBe(-1)", x.canBe(-1), 1);
        due("canBe(0)", x.canBe(0), 2);
        x.forget();
        x.seen(11, 0);
        x.seen(0, 1);
        due("canBe(0)", x.canBe(0), 0);
        x.back(0);
        due("count(3)", x.count(3), 2);
        due("which vertices, and whether: canBe(-1)", x.canBe(-1), 1);
        due("canBe(0)", x.canBe(0), 2);
        x.back(1);
        due("nothing was seen: count(3)", x.count(3), 0);
        due("canBe(-1)", x.canBe(-1), 4);
        due("seen(2, 1)", x.seen(2, 1), 1);
        due("canBe(-1)", x.canBe(-1), 2);
    }

    private static void whatImagesLeaveOut() {
        PeeledHash x = Checks.with(0, 1, 2, 3);
        x.build();
        x.image(0);
        Checks.tape(x, "\0\11\0\11\0");
        x.row();
        Checks.orders(x, "build;take 8");
        Checks.law(x, "ranks [");
        x.years(SOWINGS[5][0], 1);
        int drawn = x.drawn(3);
        x.feed(1, 2, 3, 4, 5);
        x.end(17);
        int stopped = x.stopped();
        due("back(0)", x.back(0), 0);
        due("the tape", x.count(6), 17);
        due("fault", x.fault(), 7);
        due("blanks", x.blanks(), 2);
        due("where orders stopped", x.stopped(), stopped);
        due("where orders stopped", x.stopped(), 1);
        due("the latest years", x.drawn(3), drawn);
        due("refused calls: count(9)", x.count(9), 1);
        due("refused calls: count(11)", x.count(11), 1);
        due("count(0)", x.count(0), 4);
    }
}
