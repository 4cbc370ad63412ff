/** Promises 26 to 28: what a table tells of keys, itself and strangers. */
public final class TableTest {
    private static final Checks CHECKS = new Checks();

    public static void main(String[] args) {
        withoutATable();
        fourKeys();
        thirtyKeys();
        whateverIsThereSince();
        noKeys();
        oddSides();
        strangers();
        CHECKS.finish("TableTest");
    }

    private static void due(String call, long got, long want) {
        CHECKS.due(call, got, want);
    }

    private static void withoutATable() {
        PeeledHash x = Checks.with(0, 1);
        for (int what = -1; what < 80; what++) {
            due("table(" + what + ")", x.table(what), -1);
        }
        for (int what = -1; what < 4; what++) {
            due("found(0, " + what + ")", x.found(0, what), -1);
        }
        due("twin(7)", x.twin(7), -1);
    }

    private static void fourKeys() {
        // 0: 0, 5, 10; 1: 1, 4, 11; 2: 2, 7, 11; 3: 2, 5, 8; they leave as 0 by 0, 1 by 1, 3 by 5, 2 by 2.
        PeeledHash x = Checks.with(0, 1, 2, 3);
        x.build();
        // 2: sign with 3 + 3 is 0: 0. 5 of 3: with 0 + 3 is 1: 1. 1 of 1: with 3 + 3 is 0: 0. 0 of 0: with 1 + 3: 2.
        int[] signs = {2, 0, 0, 3, 3, 1, 3, 3, 3, 3, 3, 3};
        for (int v = 0; v < 12; v++) {
            due("table(4 + " + v + ")", x.table(4 + v), signs[v]);
        }
        due("table(16)", x.table(16), -1);
        due("table(63)", x.table(63), -1);
        due("table(64)", x.table(64), 2 + 3 * 64);
        due("table(65)", x.table(65), 3 + 4 + 48 + 192);
        due("table(66)", x.table(66), 255);
        due("table(67)", x.table(67), -1);
        due("table(78)", x.table(78), -1);
        due("table(MAX)", x.table(Integer.MAX_VALUE), -1);
        due("table(-1)", x.table(-1), -1);
        due("table(MIN)", x.table(Integer.MIN_VALUE), -1);
        int[] own = {0, 1, 2, 5};
        for (int key = 0; key < 4; key++) {
            due("found(" + key + ", 0)", x.found(key, 0), own[key]);
            due("found(" + key + ", 1)", x.found(key, 1), key);
            due("found(" + key + ", 2)", x.found(key, 2), key);
        }
        due("found(1000, 0)", x.found(1000, 0), -1);
        due("found(-1, 0)", x.found(-1, 0), -1);
        due("found(0, 3)", x.found(0, 3), -1);
        due("found(0, -1)", x.found(0, -1), -1);
        due("found(4, 1)", x.found(4, 1), 3);
        due("found(5, 1)", x.found(5, 1), 4);
    }

    private static void thirtyKeys() {
        PeeledHash x = new PeeledHash();
        x.side(20);
        for (int i = 0; i < 30; i++) {
            x.add(i * i + 5 * i);
        }
        due("build() can be", x.build() >= 0 ? 1 : 0, 1);
        due("table(2)", x.table(2), 30);
        due("table(3)", x.table(3), 30);
        due("table(78) is there", x.table(78) >= 0 ? 1 : 0, 1);
        due("table(79)", x.table(79), -1);
        boolean[] numbers = new boolean[30];
        for (int i = 0; i < 30; i++) {
            int key = x.there(i);
            int own = x.found(key, 0);
            due("own vertex has a sign", x.table(4 + own) == 3 ? 1 : 0, 0);
            due("own vertex is one of three", own == x.key(key, 2 + own / 20) ? 1 : 0, 1);
            due("place of key " + key, x.found(key, 2), i);
            int number = x.found(key, 1);
            due("number of key " + key + " is new", number < 0 || number > 29 || numbers[number] ? 1 : 0, 0);
            numbers[Math.floorMod(number, 30)] = true;
        }
        for (int i = 0; i < 15; i++) {
            int packed = 0;
            for (int j = 3; j >= 0; j--) {
                packed = packed * 4 + x.table(4 + 4 * i + j);
            }
            due("byte " + i, x.table(64 + i), packed);
        }
    }

    private static void whateverIsThereSince() {
        PeeledHash x = Checks.with(0, 1, 2, 3);
        x.build();
        x.take(2);
        x.add(100);
        x.side(9);
        x.seed(77);
        due("table(0)", x.table(0), 4);
        due("table(1)", x.table(1), 0);
        due("table(2)", x.table(2), 4);
        due("found(2, 1)", x.found(2, 1), 2);
        due("found(3, 0)", x.found(3, 0), 5);
        due("found(3, 2)", x.found(3, 2), 3);
        due("twin(2): it was there", x.twin(2), -1);
        due("twin(0): it was there", x.twin(0), -1);
        due("twin(3): it was there", x.twin(3), -1);
        due("twin(4)", x.twin(4), 3);
    }

    private static void noKeys() {
        PeeledHash x = new PeeledHash();
        x.seed(5);
        due("build()", x.build(), 0);
        due("table(1)", x.table(1), 5);
        due("table(2)", x.table(2), 0);
        due("table(3)", x.table(3), 0);
        for (int key = 0; key < 1000; key += 333) {
            due("found(" + key + ", 0): nine is 0 modulo 3", x.found(key, 0), x.key(key, 2));
            due("found(" + key + ", 1)", x.found(key, 1), 0);
            due("found(" + key + ", 2)", x.found(key, 2), 0);
            due("twin(" + key + ")", x.twin(key), -1);
        }
    }

    private static void oddSides() {
        PeeledHash x = Checks.with(1, 2);
        x.side(3);
        x.build();
        due("table(12)", x.table(12) >= 0 ? 1 : 0, 1);
        due("table(13)", x.table(13), -1);
        due("byte 2 of nine vertices", x.table(66), x.table(12) + 3 * 4 + 3 * 16 + 3 * 64);
        due("byte 3 of nine vertices", x.table(67), -1);
        x.side(2);
        x.build();
        due("byte 1 of six vertices", x.table(65), x.table(8) + x.table(9) * 4 + 3 * 16 + 3 * 64);
        due("byte 2 of six vertices", x.table(66), -1);
    }

    private static void strangers() {
        PeeledHash x = Checks.with(10, 20, 30, 40, 50);
        x.side(5);
        x.build();
        int twins = 0;
        for (int key = 0; key < 300; key += 2) {
            int twin = x.twin(key);
            if (twin == -1) {
                due("twin(" + key + ") is none for a reason",
                        key % 10 == 0 && key >= 10 && key <= 50 || x.found(key, 1) == 5 ? 1 : 0, 1);
            } else {
                twins++;
                due("twin(" + key + ") is one of them", twin % 10 == 0 && twin >= 10 && twin <= 50 ? 1 : 0, 1);
                due("twin(" + key + ") has the number", x.found(twin, 1), x.found(key, 1));
            }
        }
        due("some have twins", twins > 50 ? 1 : 0, 1);
        due("twin(-1)", x.twin(-1), -1);
        due("twin(1000)", x.twin(1000), -1);
        due("status()", x.status(), 0);
    }
}
