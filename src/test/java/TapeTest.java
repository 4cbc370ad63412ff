/** Promises 7 to 10: the tape and rows. */
public final class TapeTest {
    private static final Checks CHECKS = new Checks();

    public static void main(String[] args) {
        feeding();
        ending();
        rows();
        rowsAndUndo();
        CHECKS.finish("TapeTest");
    }

    private static void due(String call, long got, long want) {
        CHECKS.due(call, got, want);
    }

    private static void feeding() {
        PeeledHash x = new PeeledHash();
        for (int i = 1; i <= 20; i++) {
            due("feed no. " + i, x.feed(0, 0, 0, 0, 0), 20 * i);
        }
        due("feed beyond 400", x.feed(0, 0, 0, 0, 0), -1);
        due("count(6)", x.count(6), 400);
        due("status() behind feed()", x.status(), 0);
        due("end(381)", x.end(381), 381);
        due("feed beyond 400, in part", x.feed(0, 0, 0, 0, 0), -1);
        due("count(6)", x.count(6), 381);
        due("end(380)", x.end(380), 380);
        due("feed to 400", x.feed(0, 0, 0, 0, 0), 400);
        due("count(7): none of these is refused", x.count(7), 0);
        // The highest byte comes first: keys 0 * 4 + 1, 2 * 4 + 3, 255 * 4 + 255 (none), 5 * 4 + 0.
        x = new PeeledHash();
        x.feed(0x00010203, 0xFFFF0500, 0, 0, 0);
        x.end(8);
        due("row()", x.row(), 3);
        due("there(0)", x.there(0), 1);
        due("there(1)", x.there(1), 11);
        due("there(2)", x.there(2), 20);
    }

    private static void ending() {
        PeeledHash x = new PeeledHash();
        due("end(0)", x.end(0), 0);
        due("end(1)", x.end(1), -1);
        x.feed(0, 0, 0, 0, 0);
        due("end(21)", x.end(21), -1);
        due("end(-1)", x.end(-1), -1);
        due("end(MIN)", x.end(Integer.MIN_VALUE), -1);
        due("count(6)", x.count(6), 20);
        due("end(20)", x.end(20), 20);
        due("end(3)", x.end(3), 3);
        due("end(4)", x.end(4), -1);
        due("count(6)", x.count(6), 3);
        due("status() behind end()", x.status(), 0);
    }

    private static void rows() {
        PeeledHash x = Checks.with(2);
        due("row() of nothing", x.row(), -6);
        due("status()", x.status(), -6);
        due("count(11)", x.count(11), 1);
        due("blanks() ahead of any", x.blanks(), 0);
        Checks.tape(x, "\0\1\0\2\371\3\372\0\0\1\7");
        // 1; 2 is there; 249 * 4 + 3 is 999; 250 * 4 is none; 1 is there by then; one byte is left.
        due("row()", x.row(), 2);
        due("status()", x.status(), 0);
        due("blanks()", x.blanks(), 4);
        due("count(6)", x.count(6), 0);
        due("there(2)", x.there(2), 999);
        due("row() of nothing", x.row(), -6);
        due("blanks() behind a refused row()", x.blanks(), 4);
        Checks.tape(x, "\0");
        due("row() of one byte", x.row(), 0);
        due("blanks()", x.blanks(), 1);
        x = new PeeledHash();
        StringBuilder many = new StringBuilder();
        for (int key = 0; key < 33; key++) {
            many.append((char) 0).append((char) (key * 2));
        }
        Checks.tape(x, many.toString());
        due("row() beyond the room", x.row(), 30);
        due("blanks()", x.blanks(), 3);
        x = new PeeledHash();
        Checks.law(x, "bars if [key % 2] = 1");
        x.force(0);
        Checks.tape(x, "\0\1\0\2\0\3\0\4");
        due("row() with bars", x.row(), 2);
        due("blanks()", x.blanks(), 2);
        due("there(1)", x.there(1), 4);
    }

    private static void rowsAndUndo() {
        PeeledHash x = Checks.with(1, 2);
        due("row() of nothing", x.row(), -6);
        due("count(5): a refused row() leaves it", x.count(5), 2);
        Checks.tape(x, "\0\1");
        due("row()", x.row(), 0);
        due("count(5): a row() ends what can be undone", x.count(5), 0);
        due("undo()", x.undo(), -3);
        x.add(9);
        due("undo()", x.undo(), 0);
        due("count(0)", x.count(0), 2);
    }
}
