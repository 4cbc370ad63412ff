/** Promises 37 to 40: images, going back, counts and the status. */
public final class ImagesTest {
    private static final Checks CHECKS = new Checks();

    public static void main(String[] args) {
        wrongNumbers();
        allThatIsKept();
        whatIsNotKept();
        imagesStay();
        lawsOfImages();
        counts();
        status();
        CHECKS.finish("ImagesTest");
    }

    private static void due(String call, long got, long want) {
        CHECKS.due(call, got, want);
    }

    private static void wrongNumbers() {
        PeeledHash x = new PeeledHash();
        due("image(-1)", x.image(-1), -1);
        due("image(2)", x.image(2), -1);
        due("back(-1)", x.back(-1), -1);
        due("back(2)", x.back(2), -1);
        due("back(0)", x.back(0), -2);
        due("status()", x.status(), -2);
        due("image(1)", x.image(1), 0);
        due("status()", x.status(), 0);
        due("back(0)", x.back(0), -2);
        due("back(1)", x.back(1), 0);
        due("count(7)", x.count(7), 4);
        due("count(8)", x.count(8), 2);
    }

    private static void allThatIsKept() {
        PeeledHash x = Checks.with(0, 1, 2, 3);
        x.terms(0, 5);
        x.terms(1, 6);
        x.terms(2, 7);
        Checks.law(x, "ranks vertex");
        x.force(0);
        x.seen(11, 1);
        x.build();
        due("image(0)", x.image(0), 0);
        x.take(0);
        x.add(500);
        x.add(501);
        x.side(12);
        x.seed(100);
        x.build();
        x.terms(0, 0);
        x.terms(1, 1);
        x.terms(2, 2);
        Checks.law(x, "bars");
        x.force(1);
        x.forget();
        x.seen(1, 0);
        x.seen(2, 0);
        due("back(0)", x.back(0), 0);
        int[] counts = {4, 4, 0, 1, 1, 0, 0, 0, 0, 0, 0, 0, 0, 6, 6, 7};
        for (int what = 0; what < counts.length; what++) {
            due("count(" + what + ")", x.count(what), counts[what]);
        }
        due("there(0)", x.there(0), 0);
        due("table(0)", x.table(0), 4);
        due("found(3, 1)", x.found(3, 1), 3);
        due("canBe(-1)", x.canBe(-1), 2);
        due("vertex(9, 1)", x.vertex(9, 1), 9);
        due("undo(): nothing behind back()", x.undo(), -3);
    }

    private static void whatIsNotKept() {
        PeeledHash x = new PeeledHash();
        x.image(0);
        Checks.orders(x, "add 5;add 5");
        Checks.law(x, "ranks ?");
        Checks.tape(x, "\0\1\0\1\0\1");
        x.row();
        Checks.tape(x, "abc");
        x.add(1000);
        x.back(0);
        due("count(0)", x.count(0), 0);
        due("count(6): the tape stays", x.count(6), 3);
        due("fault()", x.fault(), 6);
        due("blanks()", x.blanks(), 2);
        due("stopped()", x.stopped(), 1);
        due("count(7)", x.count(7), 1);
        due("count(9)", x.count(9), 1);
        due("count(11)", x.count(11), 1);
        due("status()", x.status(), 0);
        x.add(1);
        due("image() leaves what can be undone", x.image(1), 0);
        due("count(5)", x.count(5), 1);
        due("back(5)", x.back(5), -1);
        due("count(5): a refused back() leaves it", x.count(5), 1);
    }

    private static void imagesStay() {
        PeeledHash x = Checks.with(1);
        x.image(0);
        x.add(2);
        x.image(1);
        x.add(3);
        for (int i = 0; i < 3; i++) {
            x.back(0);
            due("count(0)", x.count(0), 1);
            x.add(77);
            x.back(1);
            due("count(0)", x.count(0), 2);
            x.take(1);
        }
        x.image(0);
        x.back(1);
        x.back(0);
        due("an image is kept anew", x.count(0), 1);
        due("there(0)", x.there(0), 2);
    }

    private static void lawsOfImages() {
        PeeledHash x = new PeeledHash();
        x.image(0);
        Checks.law(x, "ranks 5");
        x.image(1);
        x.back(0);
        due("count(4)", x.count(4), 0);
        due("another law", Checks.law(x, "ranks 6;ranks 8 if vertex = 3"), 0);
        due("compare(0, 3)", x.compare(0, 3), 8);
        x.back(1);
        due("count(4)", x.count(4), 1);
        due("compare(0, 3)", x.compare(0, 3), 5);
        for (int i = 1; i < 6; i++) {
            Checks.law(x, "bars");
        }
        due("no room", Checks.law(x, "bars"), -5);
        x.back(0);
        due("room again", Checks.law(x, "bars"), 0);
    }

    private static void counts() {
        PeeledHash x = Checks.with(4, 5);
        Checks.tape(x, "seven b");
        due("count(0)", x.count(0), 2);
        due("count(5)", x.count(5), 2);
        due("count(6)", x.count(6), 7);
        due("count(-1)", x.count(-1), -1);
        due("count(16)", x.count(16), -1);
        due("count(MAX)", x.count(Integer.MAX_VALUE), -1);
        due("count(MIN)", x.count(Integer.MIN_VALUE), -1);
        x.add(-1);
        x.take(1000);
        x.side(0);
        x.seed(-1);
        x.seen(-1, 0);
        x.years(-1, 0);
        x.image(2);
        x.back(2);
        x.terms(9, 9);
        x.force(3);
        x.back(0);
        x.add(4);
        x.take(9);
        x.side(4);
        x.seed(0);
        x.law();
        x.row();
        x.orders();
        x.key(-1, 0);
        x.vertex(-1, 0);
        x.core(-1);
        x.few(0, 0);
        x.end(-1);
        x.drawn(-1);
        due("count(7)", x.count(7), 9);
        due("count(8)", x.count(8), 2);
        due("count(9)", x.count(9), 4);
        due("count(10)", x.count(10), 0);
        due("count(11)", x.count(11), 3);
    }

    private static void status() {
        PeeledHash x = Checks.with(1);
        x.add(1);
        due("status() of add", x.status(), -3);
        x.key(1, 0);
        x.vertex(0, 0);
        x.there(0);
        x.ceiling(0);
        x.feed(0, 0, 0, 0, 0);
        x.end(0);
        x.blanks();
        x.fault();
        x.stopped();
        x.core(0);
        x.peeled(0, 0);
        x.good(0);
        x.leastSide();
        x.found(0, 0);
        x.table(0);
        x.twin(0);
        x.forget();
        x.canBe(0);
        x.ask(0);
        x.few(1, 1);
        x.compare(-1, 0);
        x.drawn(0);
        x.count(0);
        due("status(): others leave it", x.status(), -3);
        x.force(-1);
        due("status() of force", x.status(), 0);
        x.undo();
        x.undo();
        due("status() of undo", x.status(), -3);
        x.years(0, 1);
        due("status() of years", x.status(), 0);
        x.law();
        due("status() of law", x.status(), -6);
        x.image(0);
        due("status() of image", x.status(), 0);
        x.orders();
        due("status() of orders", x.status(), -6);
        x.build();
        due("status() of build", x.status(), 0);
        x.row();
        due("status() of row", x.status(), -6);
        x.seen(0, 0);
        due("status() of seen", x.status(), 0);
        x.take(5);
        due("status() of take", x.status(), -3);
        x.terms(0, 0);
        due("status() of terms", x.status(), 0);
        x.side(99);
        due("status() of side", x.status(), -1);
        x.seed(9);
        due("status() of seed", x.status(), 0);
        x.back(1);
        due("status() of back", x.status(), -2);
    }
}
