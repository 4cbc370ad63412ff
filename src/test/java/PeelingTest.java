/** Promises 22 to 25: cores, what is peeled when, good seeds, the least side. */
public final class PeelingTest {
    private static final Checks CHECKS = new Checks();

    public static void main(String[] args) {
        cores();
        peeled();
        peeledByLaws();
        peeledToACore();
        good();
        leastSide();
        CHECKS.finish("PeelingTest");
    }

    private static void due(String call, long got, long want) {
        CHECKS.due(call, got, want);
    }

    private static PeeledHash upTo(int keys) {
        PeeledHash x = new PeeledHash();
        for (int key = 0; key < keys; key++) {
            x.add(key);
        }
        return x;
    }

    private static void cores() {
        PeeledHash x = upTo(10);
        due("core(7)", x.core(7), 0);
        due("core(10)", x.core(10), 0);
        due("core(-1)", x.core(-1), -1);
        due("core(256)", x.core(256), -1);
        due("core(255) is some", x.core(255) > 0 ? 1 : 0, 1);
        due("core(0)", x.core(0), 9);
        due("core(1)", x.core(1), 6);
        due("core(2)", x.core(2), 10);
        // At side 2 keys 0 and 3 have the same three vertices: neither ever leaves.
        PeeledHash y = Checks.with(0, 3);
        y.side(2);
        for (int part = 2; part < 5; part++) {
            due("vertices alike", y.key(3, part), y.key(0, part));
        }
        due("core(0)", y.core(0), 2);
        due("peeled(0, 0)", y.peeled(0, 0), -1);
        y.add(1);
        due("core(0) with a third", y.core(0), 2);
        due("peeled(0, 0)", y.peeled(0, 0), 1);
        due("peeled(0, 1)", y.peeled(0, 1), 1);
        due("peeled(1, 0)", y.peeled(1, 0), -1);
        Checks.law(x, "ranks 99 - vertex");
        int before = x.core(0);
        x.force(0);
        due("core(0) by a law", x.core(0), before);
    }

    private static void peeled() {
        // 0: 0, 5, 10; 1: 1, 4, 11; 2: 2, 7, 11; 3: 2, 5, 8.
        PeeledHash x = upTo(4);
        int[][] leaving = {{0, 0}, {1, 1}, {3, 5}, {2, 2}};
        for (int i = 0; i < 4; i++) {
            due("peeled(" + i + ", 0)", x.peeled(i, 0), leaving[i][0]);
            due("peeled(" + i + ", 1)", x.peeled(i, 1), leaving[i][1]);
        }
        due("peeled(4, 0)", x.peeled(4, 0), -1);
        due("peeled(-1, 0)", x.peeled(-1, 0), -1);
        due("peeled(0, 2)", x.peeled(0, 2), -1);
        due("peeled(0, -1)", x.peeled(0, -1), -1);
        due("peeled(MAX, 0)", x.peeled(Integer.MAX_VALUE, 0), -1);
    }

    private static void peeledByLaws() {
        PeeledHash x = upTo(4);
        Checks.law(x, "ranks 2 - part");
        x.force(0);
        // Part 2 first: vertices 8 (of 3) and 10 (of 0); then 11 has two keys still, so part 1: 4 (of 1); 11 (of 2).
        int[][] leaving = {{3, 8}, {0, 10}, {1, 4}, {2, 11}};
        for (int i = 0; i < 4; i++) {
            due("peeled(" + i + ", 0)", x.peeled(i, 0), leaving[i][0]);
            due("peeled(" + i + ", 1)", x.peeled(i, 1), leaving[i][1]);
        }
        Checks.law(x, "ranks 9 - degree * 2 if part = 0 or part > 1 and degree > 1");
        x.force(1);
        // Of degree as it was ahead: 0 and 1 rank 7, 2 and 11 rank 5, all others 0: 4 (1), 7 (2), 8 (3), then 5 (0).
        int[][] second = {{1, 4}, {2, 7}, {3, 8}, {0, 5}};
        for (int i = 0; i < 4; i++) {
            due("peeled(" + i + ", 0) by degrees", x.peeled(i, 0), second[i][0]);
            due("peeled(" + i + ", 1) by degrees", x.peeled(i, 1), second[i][1]);
        }
    }

    private static void peeledToACore() {
        PeeledHash x = upTo(10);
        int left = x.core(0);
        due("peeled() as many as leave", x.peeled(9 - left, 0) >= 0 ? 1 : 0, left == 10 ? 0 : 1);
        due("peeled() no more than leave", x.peeled(10 - left, 0), -1);
    }

    private static void good() {
        PeeledHash x = upTo(10);
        due("good(-1)", x.good(-1), 2);
        due("good(0)", x.good(0), 7);
        due("good(1)", x.good(1), 10);
        due("good(2)", x.good(2), -1);
        due("good(-2)", x.good(-2), -1);
        due("good(MIN)", x.good(Integer.MIN_VALUE), -1);
        x.add(10);
        due("good(-1)", x.good(-1), 0);
        due("good(0)", x.good(0), -1);
        x.side(5);
        due("good(-1) at side 5", x.good(-1), 128);
        PeeledHash y = new PeeledHash();
        due("good(-1) without keys", y.good(-1), 256);
        due("good(255)", y.good(255), 255);
        due("good(256)", y.good(256), -1);
    }

    private static void leastSide() {
        due("leastSide() without keys", new PeeledHash().leastSide(), 2);
        due("leastSide() of one", upTo(1).leastSide(), 2);
        due("leastSide() of 4", upTo(4).leastSide(), 2);
        due("leastSide() of 5", upTo(5).leastSide(), 4);
        due("leastSide() of 10", upTo(10).leastSide(), 4);
        due("leastSide() of 11", upTo(11).leastSide(), 5);
        due("leastSide() of 13", upTo(13).leastSide(), 7);
        due("leastSide() of 30", upTo(30).leastSide(), 12);
        PeeledHash x = upTo(10);
        x.side(20);
        x.seed(99);
        due("leastSide() asks neither side nor seed", x.leastSide(), 4);
        // Keys of which at side 3 seed 0 alone, seed 15 alone, seed 16 alone is good among seeds 0 to 16.
        due("leastSide() by seed 0", Checks.with(106, 129, 382, 412, 484, 725, 762).leastSide(), 3);
        due("leastSide() by seed 15", Checks.with(126, 213, 322, 409, 477, 521).leastSide(), 3);
        due("leastSide() not by seed 16", Checks.with(133, 151, 199, 262, 417, 421).leastSide(), 4);
        // Keys that were searched for, so that none of the sides will do.
        PeeledHash y = Checks.with(48, 50, 117, 182, 220, 255, 257, 327, 467, 489, 498, 502, 537, 570, 586, 615, 639,
                686, 731, 753, 782, 807, 817, 847, 852, 885, 920, 954, 977, 984);
        due("count(0)", y.count(0), 30);
        due("leastSide() by none", y.leastSide(), -1);
        y.take(920);
        due("leastSide() by 20", y.leastSide(), 20);
        due("count(1)", x.count(1), 20);
    }
}
