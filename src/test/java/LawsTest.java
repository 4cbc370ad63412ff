/** Promises 11, 13, 15 and 34, and the part of both languages that laws show. */
public final class LawsTest {
    private static final Checks CHECKS = new Checks();

    public static void main(String[] args) {
        numbersOfLaws();
        noRoom();
        faults();
        clausesPiecesBrackets();
        wholeTapes();
        words();
        sums();
        broken();
        testsOfClauses();
        shortCuts();
        force();
        compare();
        CHECKS.finish("LawsTest");
    }

    private static void due(String call, long got, long want) {
        CHECKS.due(call, got, want);
    }

    private static void numbersOfLaws() {
        PeeledHash x = Checks.with(1);
        for (int i = 0; i < 6; i++) {
            due("law no. " + i, Checks.law(x, "ranks " + i), i);
            due("count(4)", x.count(4), i + 1);
            due("count(6)", x.count(6), 0);
        }
        due("count(12)", x.count(12), -1);
        due("count(5): law() leaves it", x.count(5), 1);
    }

    private static void noRoom() {
        PeeledHash x = new PeeledHash();
        due("law with a fault", Checks.law(x, "ranks 1 1"), -6);
        due("fault()", x.fault(), 8);
        for (int i = 0; i < 5; i++) {
            Checks.law(x, "bars");
        }
        due("law with a fault", Checks.law(x, "ranks 1  1"), -6);
        due("law no. 5", Checks.law(x, "ranks 5"), 5);
        due("fault()", x.fault(), -1);
        Checks.tape(x, "not a law");
        due("law(): no room goes ahead of reading", x.law(), -5);
        due("status()", x.status(), -5);
        due("count(10)", x.count(10), 1);
        due("count(6): the tape is empty then, too", x.count(6), 0);
        due("fault(): nothing was read", x.fault(), -1);
        due("law() of nothing, no room", x.law(), -5);
        due("count(11)", x.count(11), 2);
    }

    private static void faultAt(String text, int place) {
        PeeledHash x = new PeeledHash();
        due("law \"" + text + "\"", Checks.law(x, text), place == -1 ? 0 : -6);
        due("fault() of \"" + text + "\"", x.fault(), place);
        due("count(6) behind \"" + text + "\"", x.count(6), 0);
    }

    private static void faults() {
        faultAt("", 0);
        faultAt("    ", 4);
        faultAt("ranks 1  ", -1);
        faultAt("  bars", -1);
        faultAt("ranks   ", 8);
        faultAt("Ranks 1", 0);
        faultAt("rank 1", 0);
        faultAt("ranksx 1", 0);
        faultAt("ranks1", -1);
        faultAt("ranks 1;", 8);
        faultAt("ranks 1;;bars", 8);
        faultAt(";bars", 0);
        faultAt("bars 3", 5);
        faultAt("bars if", 7);
        faultAt("bars if 1", 9);
        faultAt("bars if 1 =", 11);
        faultAt("bars if 1 = 1 = 1", 14);
        faultAt("bars if (1 = 1", 14);
        faultAt("bars if (1 = 1]", 14);
        faultAt("bars if (1) = 1", 10);
        faultAt("bars if [1] = 1", -1);
        faultAt("bars if [1 = 1]", 11);
        faultAt("bars if 1 = 1 and", 17);
        faultAt("bars if 1 = 1 or or", 17);
        faultAt("bars if 1 = 1 or", 16);
        faultAt("ranks 1 *", 9);
        faultAt("ranks 1 % ;bars", 10);
        faultAt("bars if and 1 = 1", 8);
        faultAt("bars if 1 not = 1", 10);
        faultAt("bars if not not not 1 = 1", -1);
        faultAt("bars if not", 11);
        faultAt("bars if notnot 1 = 1", 8);
        faultAt("ranks 1 if 1 = 1 if 1 = 1", 17);
        faultAt("ranks 1000", -1);
        faultAt("ranks 1001", 6);
        faultAt("ranks 0000000000000000000000001000", -1);
        faultAt("ranks 99999999999999999999", 6);
        faultAt("ranks 4294967297", 6);
        faultAt("ranks - 1", 6);
        faultAt("ranks 1 + - 1", 10);
        faultAt("ranks 1 +", 9);
        faultAt("ranks [1 + 2", 12);
        faultAt("ranks [1 + 2)", 12);
        faultAt("ranks ]", 6);
        faultAt("ranks []", 7);
        faultAt("ranks (1)", 6);
        faultAt("ranks 1\n", 7);
        faultAt("ranks 1\tif 1 = 1", 7);
        faultAt("ranks \351", 6);
        faultAt("ranks done", 6);
        faultAt("ranks keys", 6);
        faultAt("ranks degree 3", 13);
        faultAt("ranks 1 times 2", 8);
        faultAt("build", 0);
        faultAt("ranks vertexpart", 6);
        faultAt("ranks vertex part", 13);
        faultAt("ranks 2vertex", 7);
        faultAt("barsz", 0);
        faultAt("zbars", 0);
        faultAt("ranks z", 6);
        faultAt("ranks verte", 6);
        faultAt("ranks vertexx", 6);
        faultAt("ranks 2*vertex%3if key<1or part>2and mood=0", -1);
    }

    private static void clausesPiecesBrackets() {
        faultAt(Checks.repeated("bars", 12, ";"), -1);
        faultAt(Checks.repeated("bars", 13, ";"), 60);
        faultAt(Checks.repeated("bars", 12, ";") + " ;   7", 64);
        faultAt(Checks.repeated("bars", 12, ";") + ";", 60);
        faultAt(Checks.repeated("bars", 12, ";") + " bars", 60);
        faultAt("ranks " + Checks.repeated("1", 50, "+"), -1);
        faultAt("ranks " + Checks.repeated("1", 51, "+"), 106);
        faultAt("ranks " + Checks.repeated("[1]", 51, "+"), 207);
        faultAt("ranks " + Checks.repeated("key", 25, "+") + " if " + Checks.repeated("key", 25, "+") + "=1", 209);
        faultAt("ranks " + Checks.repeated("1", 25, "+") + ";ranks " + Checks.repeated("1", 25, "+"), -1);
        faultAt("ranks " + Checks.repeated("1", 25, "+") + ";ranks " + Checks.repeated("1", 26, "+"), 112);
        faultAt("ranks [[[[[[[[1]]]]]]]]", -1);
        faultAt("ranks [[[[[[[[[1]]]]]]]]]", 14);
        faultAt("ranks [[[[[[[[1]]]]]]]]+[[[[[[[[2]]]]]]]]", -1);
        faultAt("bars if ((((((((1=1))))))))", -1);
        faultAt("bars if (((((((((1=1)))))))))", 16);
        faultAt("bars if (((([[[[1]]]]=1))))", -1);
        faultAt("bars if (((([[[[[1]]]]]=1))))", 16);
        faultAt("bars if ((((((((1=[1]))))))))", 18);
        faultAt("bars if " + Checks.repeated("not", 97, " ") + " 1=1", -1);
    }

    /** Texts that fill the tape, with as many tokens and as many steps as can be. */
    private static void wholeTapes() {
        faultAt(" ".repeat(400), 400);
        faultAt("bars" + " ".repeat(396), -1);
        faultAt(";".repeat(400), 0);
        faultAt("bars" + ";".repeat(396), 5);
        faultAt("ranks " + "7".repeat(394), 6);
        faultAt("ranks " + "0".repeat(394), -1);
        faultAt("a".repeat(400), 0);
        faultAt("ranks 1" + "+1".repeat(49) + " ".repeat(294) + "+", 400);
        String tests = "bars if " + Checks.repeated("not(not(1>2))", 23, "or ");
        faultAt(tests, -1);
        due("tests that are not so", barred(tests), 0);
        due("the last is so", barred(tests + " or not(1>2)"), 1);
        due("all are so", barred("bars if " + Checks.repeated("not(1>2)", 25, "and ")), 1);
        due("the last is not so", barred("bars if " + Checks.repeated("not(1>2)", 24, "and ") + "and not(1<2)"), 0);
        due("deep sums", ranked(new PeeledHash(), "ranks " + "1+2*[".repeat(8) + "3" + "]".repeat(8) + "%97", 0),
                deepSum());
    }

    private static int deepSum() {
        int value = 3;
        for (int i = 0; i < 7; i++) {
            value = 1 + 2 * value;
        }
        return Math.min(99, 1 + 2 * value % 97);
    }

    private static int ranked(PeeledHash x, String law, int vertex) {
        x.image(1);
        int number = Checks.law(x, law);
        int rank = number < 0 ? -7 : x.compare(number, vertex);
        x.back(1);
        return rank;
    }

    private static void words() {
        PeeledHash x = Checks.with(0, 1, 2, 3);
        x.terms(0, 77);
        x.terms(2, 6);
        due("vertex", ranked(x, "ranks vertex", 11), 11);
        due("part", ranked(x, "ranks part", 11), 2);
        due("part", ranked(x, "ranks part", 7), 1);
        due("degree", ranked(x, "ranks degree", 11), 2);
        due("key", ranked(x, "ranks key + 9", 11), 8);
        due("seed", ranked(x, "ranks seed", 11), 0);
        due("time", ranked(x, "ranks time", 11), 77);
        due("mood", ranked(x, "ranks mood", 11), 6);
        x.seed(91);
        due("seed", ranked(x, "ranks seed", 0), 91);
        String bar = "bars if vertex = 0 - 1 and part = 0 - 1 and degree = 0 - 1 and key = 9 and seed = 91 and time = 77"
                + " and mood = 6";
        due("law", Checks.law(x, bar), 0);
        x.force(0);
        due("key(9, 1)", x.key(9, 1), 1);
        due("key(8, 1)", x.key(8, 1), 0);
        x.terms(2, 5);
        due("key(9, 1)", x.key(9, 1), 0);
    }

    private static void sums() {
        PeeledHash x = new PeeledHash();
        due("2+3*4", ranked(x, "ranks 2+3*4", 0), 14);
        due("[2+3]*4", ranked(x, "ranks [2+3]*4", 0), 20);
        due("20-5-3", ranked(x, "ranks 20-5-3", 0), 12);
        due("20-[5-3]", ranked(x, "ranks 20-[5-3]", 0), 18);
        due("100/7*2", ranked(x, "ranks 100/7*2", 0), 28);
        due("100/7%4", ranked(x, "ranks 100/7%4", 0), 2);
        due("7%4*3", ranked(x, "ranks 7%4*3", 0), 9);
        due("[0-7]/2 is cut towards 0", ranked(x, "ranks [0-7]/2+10", 0), 7);
        due("[0-7]%2 is what is left then", ranked(x, "ranks [0-7]%2+10", 0), 9);
        due("7/[0-2]", ranked(x, "ranks 7/[0-2]+10", 0), 7);
        due("7%[0-2]", ranked(x, "ranks 7%[0-2]+10", 0), 11);
        due("99", ranked(x, "ranks 99", 0), 99);
        due("100", ranked(x, "ranks 100", 0), 99);
        due("0-1", ranked(x, "ranks 0-1", 0), 0);
        due("no ranks", ranked(x, "bars", 0), 0);
        due("the last", ranked(x, "ranks 5;ranks 6;bars", 0), 6);
        due("the last that holds", ranked(x, "ranks 5;ranks 6 if 1 = 2", 0), 5);
    }

    private static void broken() {
        PeeledHash x = new PeeledHash();
        due("divided by 0", ranked(x, "ranks 5;ranks 6 / 0", 0), 5);
        due("left of 0", ranked(x, "ranks 5;ranks 6 % [3 - 3]", 0), 5);
        due("1000000000 goes", ranked(x, "ranks 5;ranks 1000*1000*1000", 0), 99);
        due("1000000001 is beyond", ranked(x, "ranks 5;ranks 1000*1000*1000+1", 0), 5);
        due("-1000000000 goes", ranked(x, "ranks 5;ranks [0-1000]*1000*1000", 0), 0);
        due("-1000000001 is beyond", ranked(x, "ranks 5;ranks [0-1000]*1000*1000-1", 0), 5);
        due("far beyond", ranked(x, "ranks 5;ranks " + Checks.repeated("1000", 40, "*") + "*0", 0), 5);
        due("beyond on the way", ranked(x, "ranks 5;ranks 1000*1000*1000+1-1", 0), 5);
        due("a broken if", ranked(x, "ranks 5;ranks 6 if 1/0 = 1", 0), 5);
        due("not of a broken test", ranked(x, "ranks 5;ranks 6 if not 1/0 = 1", 0), 5);
        due("a broken if of bars", barred("bars if 1/0 = 0"), 0);
        due("not of a broken if of bars", barred("bars if not (1/0 = 0)"), 0);
        due("bars behind broken bars", barred("bars if 1/0 = 0;bars"), 1);
        due("bars ahead of others", barred("bars;bars if 1 = 2"), 1);
        due("ranks are no bars", barred("ranks 5"), 0);
    }

    private static int barred(String law) {
        PeeledHash x = new PeeledHash();
        if (Checks.law(x, law) < 0) {
            return -7;
        }
        x.force(0);
        return x.key(5, 1);
    }

    private static void testsOfClauses() {
        due("1 < 2", barred("bars if 1 < 2"), 1);
        due("2 < 2", barred("bars if 2 < 2"), 0);
        due("3 > 2", barred("bars if 3 > 2"), 1);
        due("2 > 2", barred("bars if 2 > 2"), 0);
        due("2 = 2", barred("bars if 2 = 2"), 1);
        due("2 = 3", barred("bars if 2 = 3"), 0);
        due("not", barred("bars if not 2 = 3"), 1);
        due("not not", barred("bars if not not 2 = 3"), 0);
        due("and binds more than or", barred("bars if 1=1 or 1=1 and 1=2"), 1);
        due("brackets", barred("bars if (1=1 or 1=1) and 1=2"), 0);
        due("not binds more than and", barred("bars if not 1=2 and 1=2"), 0);
        due("not of brackets", barred("bars if not (1=2 and 1=2)"), 1);
        due("or of three", barred("bars if 1=2 or 1=3 or 1=1"), 1);
        due("and of three", barred("bars if 1=1 and 2=2 and 3=4"), 0);
        due("or, and, or", barred("bars if 1=2 and 1=1 or 1=1 and 2=2"), 1);
        due("sums on both sides", barred("bars if key*2-1 = 3+[key+1]"), 1);
    }

    private static void shortCuts() {
        due("so or broken", barred("bars if 1=1 or 1/0=1"), 1);
        due("not so or broken", barred("bars if 1=2 or 1/0=1"), 0);
        due("not (not so or broken)", barred("bars if not (1=2 or 1/0=1)"), 0);
        due("broken or so", barred("bars if 1/0=1 or 1=1"), 0);
        due("not so and broken", barred("bars if not (1=2 and 1/0=1)"), 1);
        due("so and broken", barred("bars if not (1=1 and 1/0=1)"), 0);
        due("broken and not so", barred("bars if not (1/0=1 and 1=2)"), 0);
        due("so or broken and broken", barred("bars if 1=1 or 1/0=1 and 1/0=1"), 1);
        due("not so and broken or so", barred("bars if 1=2 and 1/0=1 or 1=1"), 1);
    }

    private static void force() {
        PeeledHash x = Checks.with(1);
        due("force(0)", x.force(0), -2);
        due("status()", x.status(), -2);
        due("force(-1)", x.force(-1), -1);
        due("status()", x.status(), 0);
        Checks.law(x, "ranks 7");
        Checks.law(x, "bars");
        due("force(1)", x.force(1), -1);
        due("count(12)", x.count(12), 1);
        due("key(2, 1)", x.key(2, 1), 1);
        due("force(0)", x.force(0), 1);
        due("key(2, 1)", x.key(2, 1), 0);
        due("vertex(0, 1)", x.vertex(0, 1), 7);
        due("force(2)", x.force(2), -2);
        due("force(-2)", x.force(-2), -2);
        due("force(MIN)", x.force(Integer.MIN_VALUE), -2);
        due("count(8)", x.count(8), 4);
        due("count(12)", x.count(12), 0);
        due("force(-1)", x.force(-1), 0);
        due("vertex(0, 1)", x.vertex(0, 1), 0);
        due("count(5): force() leaves it", x.count(5), 1);
    }

    private static void compare() {
        PeeledHash x = Checks.with(0, 1, 2, 3);
        Checks.law(x, "ranks degree * 10 + vertex");
        Checks.law(x, "ranks 40 - vertex");
        x.force(1);
        due("compare(-1, 5)", x.compare(-1, 5), 0);
        due("compare(0, 5)", x.compare(0, 5), 25);
        due("compare(1, 5)", x.compare(1, 5), 35);
        due("vertex(5, 1)", x.vertex(5, 1), 35);
        due("compare(2, 5)", x.compare(2, 5), -1);
        due("compare(-2, 5)", x.compare(-2, 5), -1);
        due("compare(0, 12)", x.compare(0, 12), -1);
        due("compare(0, -1)", x.compare(0, -1), -1);
        due("compare(-1, 12)", x.compare(-1, 12), -1);
        due("count(12)", x.count(12), 1);
        due("status()", x.status(), 0);
    }
}
