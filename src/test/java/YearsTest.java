/** Promises 35 and 36: years by draws, on paper. */
public final class YearsTest {
    private static final Checks CHECKS = new Checks();

    public static void main(String[] args) {
        wrongNumbers();
        oneYear();
        onPaper();
        byHand();
        kept();
        CHECKS.finish("YearsTest");
    }

    private static void due(String call, long got, long want) {
        CHECKS.due(call, got, want);
    }

    private static void wrongNumbers() {
        PeeledHash x = new PeeledHash();
        due("years(-1, 5)", x.years(-1, 5), -1);
        due("years(1000001, 5)", x.years(1000001, 5), -1);
        due("years(5, 0)", x.years(5, 0), -1);
        due("years(5, 61)", x.years(5, 61), -1);
        due("status()", x.status(), -1);
        due("count(7)", x.count(7), 4);
        due("years(1000000, 60) can be", x.years(1000000, 60) >= 0 ? 1 : 0, 1);
        due("status()", x.status(), 0);
        due("drawn(-1)", x.drawn(-1), -1);
        due("drawn(40)", x.drawn(40), -1);
    }

    private static void oneYear() {
        // s is 12345, then 628841: key 25, deed 1.
        PeeledHash x = new PeeledHash();
        due("years(0, 1)", x.years(0, 1), 1);
        due("drawn(25): no table", x.drawn(25), -1);
        PeeledHash y = Checks.with(25);
        due("years(0, 1): it is there", y.years(0, 1), 1);
        PeeledHash z = new PeeledHash();
        Checks.law(z, "bars if key = 25");
        z.force(0);
        due("years(0, 1): it is barred", z.years(0, 1), 0);
    }

    private static void onPaper() {
        PeeledHash x = Checks.with(1, 2, 3);
        x.build();
        int number = x.found(2, 1);
        x.years(4711, 60);
        due("count(0)", x.count(0), 3);
        due("count(2)", x.count(2), 0);
        due("count(5)", x.count(5), 4);
        due("count(13)", x.count(13), 1);
        due("table(2)", x.table(2), 3);
        due("found(2, 1)", x.found(2, 1), number);
        due("the same again", x.years(4711, 60), x.years(4711, 60));
    }

    /** The draws done by calls on a second object. */
    private static void byHand() {
        for (int sowing = 0; sowing <= 1000000; sowing += 99991) {
            PeeledHash x = Checks.with(500, 600);
            PeeledHash y = Checks.with(500, 600);
            int side = 6 + sowing % 7;
            x.side(side);
            y.side(side);
            Checks.law(x, "ranks 40 - vertex if time < 3;bars if key % 7 = time");
            Checks.law(y, "ranks 40 - vertex if time < 3;bars if key % 7 = time");
            x.force(0);
            y.force(0);
            int built = 0;
            long s = sowing;
            for (int year = 0; year < 60; year++) {
                s = (s * 1103 + 12345) % 1000003;
                int key = (int) (s % 40);
                s = (s * 1103 + 12345) % 1000003;
                int deed = (int) (s % 8);
                if (deed <= 4) {
                    y.add(key);
                } else if (deed == 5) {
                    y.take(key);
                } else if (y.build() >= 0) {
                    built++;
                }
            }
            due("years(" + sowing + ", 60)", x.years(sowing, 60), y.count(0));
            due("some were built", built > 0 ? 1 : 0, 1);
            for (int key = 0; key < 40; key++) {
                due("drawn(" + key + ")", x.drawn(key), y.found(key, 1));
            }
        }
    }

    private static void kept() {
        PeeledHash x = Checks.with(1, 2, 3);
        x.build();
        x.years(0, 1);
        due("drawn(3): the table as it is", x.drawn(3), x.found(3, 1));
        int number = x.drawn(3);
        due("years(0, 0)", x.years(0, 0), -1);
        x.image(0);
        x.take(1);
        x.side(9);
        x.build();
        due("drawn(3): the latest years stay", x.drawn(3), number);
        x.undo();
        x.undo();
        x.undo();
        x.undo();
        due("table(0)", x.table(0), -1);
        x.years(0, 1);
        due("drawn(3): no table", x.drawn(3), -1);
        x.back(0);
        due("drawn(3): images do not keep years", x.drawn(3), -1);
    }
}
