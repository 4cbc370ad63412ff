/** The edges that the two languages of Terms II name: laws and what they rank and bar, orders and how they are run. */
public final class EdgesOfLanguagesTest {
    private static final Checks CHECKS = new Checks();
    private static final int FINE = -1;

    public static void main(String[] args) {
        numberOfLaws();
        lawInForce();
        words();
        wordsOfLaws();
        holding();
        ranks();
        bars();
        times();
        numbersOfWords();
        whatIsNoPiece();
        wordsOfOrders();
        asked();
        canNotBe();
        CHECKS.finish("EdgesOfLanguagesTest");
    }

    private static void due(String call, long got, long want) {
        CHECKS.due(call, got, want);
    }

    private static void orders(String text, int place) {
        PeeledHash x = new PeeledHash();
        int answer = Checks.orders(x, text);
        due("orders \"" + text + "\" are refused by -6", answer == -6 ? 1 : 0, place == FINE ? 0 : 1);
        due("fault() of orders \"" + text + "\"", x.fault(), place);
    }

    private static int rank(String law) {
        PeeledHash x = new PeeledHash();
        return Checks.law(x, law) == 0 ? x.compare(0, 0) : -7;
    }

    private static void numberOfLaws() {
        CHECKS.says("LAWS, 6 at most; one is in FORCE (NONE at first: no CLAUSE)");
        PeeledHash x = new PeeledHash();
        for (int i = 0; i < 6; i++) {
            due("law no. " + i, Checks.law(x, "ranks " + i), i);
        }
        due("the 7th", Checks.law(x, "ranks 7"), -5);
        due("count(4): 6 stay", x.count(4), 6);
        due("the last of them: compare(5, 0)", x.compare(5, 0), 5);
        due("compare(6, 0)", x.compare(6, 0), -1);
    }

    private static void lawInForce() {
        PeeledHash x = new PeeledHash();
        due("NONE at first: count(12)", x.count(12), -1);
        Checks.law(x, "ranks 9;bars");
        due("a law that is read is not in force: count(12)", x.count(12), -1);
        due("no clause: vertex(0, 1)", x.vertex(0, 1), 0);
        due("no clause: key(0, 1)", x.key(0, 1), 0);
        due("force(0)", x.force(0), -1);
        due("vertex(0, 1)", x.vertex(0, 1), 9);
        due("key(0, 1)", x.key(0, 1), 1);
        due("force(-1)", x.force(-1), 0);
        due("no clause again: vertex(0, 1)", x.vertex(0, 1), 0);
        due("no clause again: add(0)", x.add(0), 1);
    }

    private static void law(String text, int place) {
        PeeledHash x = new PeeledHash();
        due("law \"" + text + "\"", Checks.law(x, text), place == FINE ? 0 : -6);
        due("fault() of law \"" + text + "\"", x.fault(), place);
    }

    /** A word of one language is a fault in the other; and so is one with a letter less or more. */
    private static void words() {
        CHECKS.says("Words: \"vertex\" | \"part\" | \"degree\" | \"key\" | \"seed\" | \"time\" | \"mood\".");
        String[] ofLaws = {"vertex", "part", "degree", "key", "seed", "time", "mood"};
        for (String word : ofLaws) {
            law("ranks " + word, FINE);
            law("bars if " + word + " = " + word, FINE);
            law("ranks " + word + "z", 6);
            law("ranks " + word.substring(0, word.length() - 1), 6);
            boolean ofBoth = word.equals("time");
            orders("add 5 + " + word, ofBoth ? FINE : word.equals("degree") ? 14 : 8);
        }
        CHECKS.says("Words: \"time\" | \"done\" | \"latest\" | \"keys\" | \"degree\" V | \"number\" K");
        String[] ofOrders = {"time", "done", "latest", "keys", "degree 5", "number 5"};
        for (String word : ofOrders) {
            orders("add 5 + " + word, FINE);
            orders("build if " + word + " = " + word, FINE);
            orders("add 5 + z" + word, 8);
            boolean ofBoth = word.equals("time");
            law("ranks " + word, ofBoth ? FINE : word.equals("degree 5") ? 13 : 6);
        }
        String[] none = {"if", "or", "and", "not", "times", "ranks", "bars", "add", "take", "side", "build", "x"};
        for (String word : none) {
            law("ranks " + word, 6);
            orders("add " + word, 4);
        }
        CHECKS.says("ORDERS: CLAUSE: (\"add\" SUM | \"take\" SUM | \"side\" SUM | \"seed\" SUM | \"build\") [\"times\" TIMES]"
                + " [\"if\" TEST]. (a KEY; a KEY; a SIDE; a SEED; nothing.)");
        String[] heads = {"add", "take", "side", "seed"};
        for (String head : heads) {
            orders(head + " 5 times 1 if 1=2", FINE);
            orders(head, head.length());
            orders(head + " times 1", head.length() + 1);
            orders(head + " if 1=1", head.length() + 1);
            law(head + " 5", 0);
        }
        orders("build", FINE);
        orders("build 5", 6);
        law("build", 0);
        orders("ranks 5", 0);
        orders("bars", 0);
        orders("undo", 0);
    }

    private static void wordsOfLaws() {
        CHECKS.says("\"ranks\" is asked of a VERTEX (key -1; degree: of all KEYS that are THERE), \"bars\" of a KEY that would be"
                + " added (vertex, part, degree -1); seed, time: as they are then.");
        PeeledHash x = Checks.with(0, 1, 2, 3);
        Checks.law(x, "ranks 50 + key");
        due("key of a vertex", x.compare(0, 0), 49);
        Checks.law(x, "bars if vertex = 0-1 and part = 0-1 and degree = 0-1 and key = 999");
        x.force(1);
        due("key(999, 1)", x.key(999, 1), 1);
        due("key(998, 1)", x.key(998, 1), 0);
        Checks.law(x, "bars if not key = 0");
        x.force(2);
        due("key(0, 1)", x.key(0, 1), 0);
        due("key(1, 1)", x.key(1, 1), 1);
        Checks.law(x, "ranks degree * 10");
        due("degree of vertex 2: two keys", x.compare(3, 2), 20);
        due("degree of vertex 3: no key", x.compare(3, 3), 0);
        // Once key 0 has left, 5 has one key; but it was asked with two, so that 7 goes ahead of it.
        x.force(3);
        due("peeled(2, 1)", x.peeled(2, 1), 7);
        PeeledHash y = new PeeledHash();
        Checks.law(y, "ranks time / 11;bars if seed = 255 and time = 999");
        y.force(0);
        y.terms(0, 999);
        due("key(5, 1) at seed 0", y.key(5, 1), 0);
        due("vertex(0, 1) at time 999", y.vertex(0, 1), 90);
        y.seed(255);
        due("add(5) at seed 255, time 999", y.add(5), -3);
        y.terms(0, 998);
        due("add(5) at seed 255, time 998", y.add(5), 1);
    }

    private static void holding() {
        CHECKS.says("A CLAUSE HOLDS, if its \"if\" (if it has one) is so, and neither that nor its SUM is BROKEN.");
        due("without an if", rank("ranks 7"), 7);
        due("so", rank("ranks 7 if 1=1"), 7);
        due("not so", rank("ranks 7 if 1=2"), 0);
        due("broken", rank("ranks 7 if 1/0=1"), 0);
        due("not of a broken one", rank("ranks 7 if not 1/0=1"), 0);
        due("a broken sum", rank("ranks 1/0"), 0);
        due("a broken sum, so", rank("ranks 1/0 if 1=1"), 0);
        due("a sum at the edge", rank("ranks 1000*1000*1000"), 99);
        due("a sum beyond it", rank("ranks 1000*1000*1000+1"), 0);
    }

    private static void ranks() {
        CHECKS.says("A VERTEX RANKS 0 .. 99 as the last \"ranks\" that HOLDS tells (else the nearest), 0 without");
        due("0", rank("ranks 0"), 0);
        due("1", rank("ranks 1"), 1);
        due("-1: the nearest", rank("ranks 0-1"), 0);
        due("98", rank("ranks 98"), 98);
        due("99", rank("ranks 99"), 99);
        due("100: the nearest", rank("ranks 100"), 99);
        due("the most", rank("ranks 1000*1000*1000"), 99);
        due("the least", rank("ranks [0-1000]*1000*1000"), 0);
        due("the last", rank("ranks 3;ranks 4"), 4);
        due("the last, though it is lower", rank("ranks 4;ranks 3"), 3);
        due("the last, though it is not within 0 .. 99", rank("ranks 4;ranks 0-5"), 0);
        due("the last that holds", rank("ranks 3;ranks 4 if 1=2;ranks 5 if 1/0=1;ranks 1/0;bars"), 3);
        due("without", rank("bars"), 0);
        due("without one that holds", rank("ranks 5 if 1=2"), 0);
    }

    private static void bars() {
        CHECKS.says("a KEY is BARRED, if \"bars\" HOLDS.");
        PeeledHash x = new PeeledHash();
        Checks.law(x, "bars if key < 10;bars if key > 990;bars if 1/[key-500] = 7");
        x.force(0);
        due("key(9, 1)", x.key(9, 1), 1);
        due("key(10, 1)", x.key(10, 1), 0);
        due("key(990, 1)", x.key(990, 1), 0);
        due("key(991, 1)", x.key(991, 1), 1);
        due("key(500, 1): broken", x.key(500, 1), 0);
        due("add(9)", x.add(9), -3);
        due("add(10)", x.add(10), 1);
        due("add(990)", x.add(990), 2);
        due("add(991)", x.add(991), -3);
        due("add(500)", x.add(500), 3);
    }

    private static void times() {
        CHECKS.says("TIMES: a NUMBER 1 .. 20.");
        orders("build times 0", 12);
        orders("build times 1", FINE);
        orders("build times 20", FINE);
        orders("build times 21", 12);
        orders("build times 020", FINE);
        orders("build times 1001", 12);
        orders("build times", 11);
        orders("build times time", 12);
        orders("build times [1]", 12);
        orders("build times 2 * 2", 14);
        orders("build times 2 times 2", 14);
        orders("build if 1=1 times 2", 13);
        CHECKS.says("Run CLAUSE by CLAUSE, each as often as TIMES tell (once without)");
        due("one behind another", Checks.orders(new PeeledHash(), "add 5;take 5;add 5 times 1;side 5;seed 5;build"), 6);
        due("the first of all goes first", Checks.orders(new PeeledHash(), "take 5;add 5"), -3);
        PeeledHash rows = new PeeledHash();
        due("the first as often as it is told, then the second", Checks.orders(rows, "add done times 3;add 10 + done times 2"), 5);
        int[] keys = {0, 1, 2, 13, 14};
        for (int i = 0; i < keys.length; i++) {
            due("there(" + i + ")", rows.there(i), keys[i]);
        }
        due("times 1", Checks.orders(new PeeledHash(), "build times 1"), 1);
        due("once without", Checks.orders(new PeeledHash(), "build"), 1);
        due("times 20", Checks.orders(new PeeledHash(), "build times 20"), 20);
        PeeledHash x = new PeeledHash();
        due("all that can be run", Checks.orders(x, Checks.repeated("build times 20", 12, ";")), 240);
        due("count(13)", x.count(13), 240);
        due("count(5)", x.count(5), 16);
    }

    private static void numbersOfWords() {
        CHECKS.says("(V: a NUMBER 0 .. 59, K: 0 .. 999)");
        orders("add degree 0 + 5", FINE);
        orders("add degree 59 + 5", FINE);
        orders("add degree 60", 11);
        orders("add degree 059 + 5", FINE);
        orders("add degree", 10);
        orders("add degree -1", 11);
        orders("add degree [1]", 11);
        orders("add degree time", 11);
        orders("add number 0 + 5", FINE);
        orders("add number 999 + 5", FINE);
        orders("add number 1000", 11);
        orders("add number 1001", 11);
        orders("add number", 10);
        orders("add number -1", 11);
        orders("add number keys", 11);
        orders("build if degree 59 = number 999", FINE);
        orders("build if degree 60 = 1", 16);
        orders("build if 1 = number 1000", 20);
    }

    private static void whatIsNoPiece() {
        CHECKS.says("V, K, TIMES aside, NUMBERS and words count as PIECES.");
        String tests = Checks.repeated("1=1", 23, "and ");
        orders("add degree 5+number 5+9 times 20 if " + tests + "and 1=2", 36 + 7 * 23 + 2);
        orders("add degree 5+number 5 times 20 if " + tests + "and 1=2", FINE);
        orders("add " + Checks.repeated("number 5", 44, "+"), FINE);
        orders("add " + Checks.repeated("1", 49, "+") + "+degree 5", FINE);
        orders("add " + Checks.repeated("1", 50, "+") + "+degree 5", 4 + 2 * 50);
        orders("add " + Checks.repeated("1", 49, "+") + "+number 5+1", 4 + 2 * 49 + 9);
        orders(Checks.repeated("add 1+1+1+1 times 20 if 1=2", 8, ";"), FINE);
        orders(Checks.repeated("add 1+1+1+1 times 20 if 1=2", 8, ";") + ";add 1+1", FINE);
        orders(Checks.repeated("add 1+1+1+1 times 20 if 1=2", 8, ";") + ";add 1+1+1", 28 * 8 + 8);
    }

    private static void wordsOfOrders() {
        CHECKS.says("done: how many were run in this TEXT, latest: what the latest build in it told (-1: none), keys: how many"
                + " are THERE, degree: of a VERTEX (-1: it is not there), number: NUMBER of a KEY (-1 without a TABLE).");
        PeeledHash x = Checks.with(0, 1, 2, 3);
        due("done is 0 at first", Checks.orders(x, "build times 2;build if done = 2"), 3);
        due("done is 0 again in the next text", Checks.orders(x, "build if done = 0"), 1);
        due("done leaves out what was not run", Checks.orders(x, "build if 1=2;build if done = 0"), 1);
        due("latest of no build in this text", Checks.orders(x, "build if latest = 0-1"), 1);
        due("latest of a build", Checks.orders(x, "build;build if latest = 0"), 2);
        due("keys", Checks.orders(x, "take 0 times 2 if keys = 4;build if keys = 3"), 2);
        PeeledHash empty = new PeeledHash();
        due("keys: none", Checks.orders(empty, "add 5 if keys = 0"), 1);
        PeeledHash full = new PeeledHash();
        due("keys: 30", Checks.orders(full, "add keys times 20;add keys times 10;take 29 if keys = 30"), 31);
        PeeledHash y = Checks.with(0, 1, 2, 3);
        due("degree of the last vertex", Checks.orders(y, "build if degree 11 = 2"), 1);
        due("degree behind the last vertex", Checks.orders(y, "build if degree 12 = 0-1"), 1);
        due("degree of 59 at side 4", Checks.orders(y, "build if degree 59 = 0-1"), 1);
        y.side(20);
        due("degree of 59 at side 20", Checks.orders(y, "build if degree 59 = " + y.vertex(59, 0)), 1);
        due("degree by the side as it is then", Checks.orders(y, "side 2;build if degree 5 > 0 and degree 6 = 0-1"), 2);
        PeeledHash z = Checks.with(0, 1, 2, 3);
        due("number without a table", Checks.orders(z, "add 9 if number 0 = 0-1 and number 999 = 0-1"), 1);
        due("number with one", Checks.orders(z, "take 9;build;add 9 if number 0 = 0 and number 3 = 3 and number 5 = 4"), 3);
        // Two keys have vertex 2, key 3 has number 3; by then 1 was run, 4 are there, it is time 1, 0 was the latest.
        PeeledHash u = Checks.with(0, 1, 2, 3);
        String all = "keys*100+degree 2*10+number 3+done*500+time*0+latest*7";
        due("all words in one sum", Checks.orders(u, "build;add " + all), 2);
        due("key(923, 0)", u.key(923, 0), 1);
        u.undo();
        due("in another order", Checks.orders(u, "build times 2;add number 3+degree 2*10+number 2*100+keys+time*200+done"), 3);
        due("key(3 + 20 + 200 + 4 + 600 + 2, 0)", u.key(829, 0), 1);
        PeeledHash w = new PeeledHash();
        w.terms(0, 998);
        due("time goes to 999", Checks.orders(w, "build;build if time = 999;build if time = 999;build if time = 998"), 3);
        // Keys 0 to 9 at side 4: from seed 11 on 252 seeds are tried ahead of 7.
        PeeledHash v = Checks.with(0, 1, 2, 3, 4, 5, 6, 7, 8, 9);
        due("latest goes round", Checks.orders(v, "seed 11;build;seed 8 if latest = 252;build;take 0 if latest = 2"), 5);
    }

    private static void asked() {
        CHECKS.says("each time its \"if\" is asked (not run, if it is not so or BROKEN), then its SUMS.");
        PeeledHash x = new PeeledHash();
        due("asked each time", Checks.orders(x, "add done times 20 if done < 7"), 7);
        due("not so at first, so later", Checks.orders(x, "take 0 times 3 if keys < 7"), 0);
        due("broken", Checks.orders(x, "take 0 if 1/0 = 0"), 0);
        due("not run: a broken sum is not asked", Checks.orders(x, "take 1/0 if 1 = 2"), 0);
        due("not run: a key that can't be is not asked for", Checks.orders(x, "add 1000 if 1 = 2"), 0);
        due("broken once, so once", Checks.orders(x, "take 3;add 200 + done times 2 if 6 / [done - 1] > 0;add 300"), 2);
        due("key(300, 0)", x.key(300, 0), 1);
        due("count(0)", x.count(0), 7);
        due("status()", x.status(), 0);
    }

    private static void stops(PeeledHash x, String text, int clause) {
        int[] counts = new int[16];
        for (int what = 0; what < 16; what++) {
            counts[what] = x.count(what);
        }
        int table = x.table(0) * 1000 + x.table(1);
        due("\"" + text + "\"", Checks.orders(x, text), -3);
        due("stopped() of \"" + text + "\"", x.stopped(), clause);
        for (int what = 0; what < 16; what++) {
            due("count(" + what + ") behind \"" + text + "\"", x.count(what), counts[what] + (what == 9 ? 1 : 0));
        }
        due("the table behind \"" + text + "\"", x.table(0) * 1000 + x.table(1), table);
    }

    private static void canNotBe() {
        CHECKS.says("One that can't be (a BROKEN SUM, as add(), take(), side(), seed(), build() are REFUSED) ends it: all is as it"
                + " was ahead of it.");
        PeeledHash x = Checks.with(0, 1, 2, 3);
        stops(x, "add 1000 * 1000 * 1000 + 1", 0);
        stops(x, "build;add 0-1", 1);
        stops(x, "build;add 999;add 1000", 2);
        stops(x, "add 5;add 5", 1);
        stops(x, "take 0;take 0", 1);
        stops(x, "take 1000", 0);
        stops(x, "take 0-1", 0);
        stops(x, "side 2;side 1", 1);
        stops(x, "side 20;side 21", 1);
        PeeledHash u = Checks.with(0, 1, 2, 3);
        stops(u, "side 4", 0);
        stops(u, "seed 255;seed 256", 1);
        stops(u, "seed 0-1", 0);
        stops(u, "seed 0", 0);
        stops(u, "build times 20;build times 20;seed 9;side 2;add 10 + done % 10 times 9;build", 5);
        stops(u, Checks.repeated("build", 11, ";") + ";take 9", 11);
        PeeledHash y = new PeeledHash();
        due("30 of them", Checks.orders(y, "add keys times 20;add keys times 10"), 30);
        PeeledHash z = new PeeledHash();
        stops(z, "add keys times 20;add keys times 11", 1);
        Checks.law(z, "bars if key = 7");
        z.force(0);
        stops(z, "add keys times 8", 0);
        due("the others can be", Checks.orders(z, "add keys times 7"), 7);
        PeeledHash w = Checks.with(0, 1, 2, 3, 4, 5, 6, 7, 8, 9, 10);
        stops(w, "build", 0);
        stops(w, "take 10;build;add 10;build", 3);
    }
}
