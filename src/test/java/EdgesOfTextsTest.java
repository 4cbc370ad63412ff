/** The edges that Terms II of the document names: the tape, tokens, clauses, pieces, brackets, broken sums. */
public final class EdgesOfTextsTest {
    private static final Checks CHECKS = new Checks();
    private static final int FINE = -1;

    public static void main(String[] args) {
        tape();
        oneBehindAnother();
        tokens();
        clauses();
        grammar();
        truths();
        numbers();
        pieces();
        brackets();
        faultsAtTheEnd();
        beyond();
        divided();
        shortCuts();
        CHECKS.finish("EdgesOfTextsTest");
    }

    private static void due(String call, long got, long want) {
        CHECKS.due(call, got, want);
    }

    /** A law with its fault at that place, or FINE. */
    private static void law(String text, int place) {
        PeeledHash x = new PeeledHash();
        due("law \"" + text + "\"", Checks.law(x, text), place == FINE ? 0 : -6);
        due("fault() of law \"" + text + "\"", x.fault(), place);
        due("count(4) behind law \"" + text + "\"", x.count(4), place == FINE ? 1 : 0);
    }

    /** Orders with their fault at that place, or FINE; they are run then, or can't be. */
    private static void orders(String text, int place) {
        PeeledHash x = new PeeledHash();
        int answer = Checks.orders(x, text);
        due("orders \"" + text + "\" are refused by -6", answer == -6 ? 1 : 0, place == FINE ? 0 : 1);
        due("fault() of orders \"" + text + "\"", x.fault(), place);
    }

    private static int rank(String law) {
        PeeledHash x = new PeeledHash();
        return Checks.law(x, law) == 0 ? x.compare(0, 0) : -7;
    }

    private static int barred(String test) {
        PeeledHash x = new PeeledHash();
        if (Checks.law(x, "bars if " + test) != 0) {
            return -7;
        }
        x.force(0);
        return x.key(5, 1);
    }

    /** A sum that is broken shows by a clause that does not hold, a test that is neither so nor not, an order that can't be. */
    private static void isBroken(String sum, boolean broken) {
        due(sum + ": the clause ahead of it stands", rank("ranks 55;ranks " + sum), broken ? 55 : rank("ranks " + sum));
        due(sum + ": neither so nor not so", barred(sum + "=0 or " + sum + "<0 or " + sum + ">0"), broken ? 0 : 1);
        due(sum + ": not of it", barred("not 0=" + sum + " or not 1=" + sum), broken ? 0 : 1);
        PeeledHash x = new PeeledHash();
        due(sum + ": an order's if", Checks.orders(x, "add 1 if " + sum + "=0 or not " + sum + "=0"), broken ? 0 : 1);
        due(sum + ": orders", Checks.orders(x, "add 10;add 0*[" + sum + "]"), broken ? -3 : 2);
        due(sum + ": stopped()", x.stopped(), broken ? 1 : -1);
    }

    private static void tape() {
        CHECKS.says("TEXTS are on a TAPE of at most 400 bytes.");
        PeeledHash x = new PeeledHash();
        for (int i = 0; i < 19; i++) {
            x.feed(0, 0, 0, 0, 0);
        }
        due("feed() up to 400", x.feed(0, 0, 0, 0, 0), 400);
        due("feed() beyond 400", x.feed(0, 0, 0, 0, 0), -1);
        due("count(6)", x.count(6), 400);
        x.end(381);
        due("feed() up to 401", x.feed(0, 0, 0, 0, 0), -1);
        due("count(6): 381 stay", x.count(6), 381);
        x.end(0);
        law("bars" + " ".repeat(396), FINE);
        law(" ".repeat(396) + "bars", FINE);
        law("bars" + " ".repeat(395) + "?", 399);
        law("bars;" + " ".repeat(395), 400);
        orders("build" + " ".repeat(395), FINE);
        orders("build" + " ".repeat(394) + "?", 399);
        orders("build;" + " ".repeat(394), 400);
        law("ranks " + "0".repeat(394), FINE);
        law("z".repeat(400), 0);
        law(" ".repeat(399) + "z", 399);
        // Words that end where the tape does, a letter before they would be known.
        String[] cut = {"bar", "rank", "b", "r"};
        for (String word : cut) {
            law(" ".repeat(400 - word.length()) + word, 400 - word.length());
        }
        law("ranks" + " ".repeat(390) + "verte", 395);
        law("ranks" + " ".repeat(389) + "vertex", FINE);
        law("ranks" + " ".repeat(392) + "key", FINE);
    }

    /** Each text is read anew, however long those ahead of it were and wherever they ended. */
    private static void oneBehindAnother() {
        CHECKS.says("The TAPE, which is empty then, becomes a LAW: its number.");
        PeeledHash x = new PeeledHash();
        x.image(0);
        for (int i = 0; i < 9; i++) {
            String ranks = "ranks " + i + "+" + Checks.repeated("1", 44, "+") + " if 1=1 and 2=2";
            due("law no. " + i, Checks.law(x, ranks + " ".repeat(400 - ranks.length())), 0);
            due("compare(0, 0) of law no. " + i, x.compare(0, 0), 44 + i);
            due("a law with a fault at its end", Checks.law(x, ranks + " and"), -6);
            due("fault()", x.fault(), ranks.length() + 4);
            x.back(0);
        }
        PeeledHash y = new PeeledHash();
        y.image(0);
        for (int i = 0; i < 9; i++) {
            String lookups = "add " + i + "+" + Checks.repeated("degree 0", 20, "+") + "+" + Checks.repeated("number 0", 20, "+");
            // No key has vertex 0, and without a table each number is -1: all that is left is i.
            due("orders no. " + i, Checks.orders(y, lookups + "+20"), 1);
            due("there(0) behind orders no. " + i, y.there(0), i);
            y.back(0);
        }
    }

    private static void tokens() {
        CHECKS.says("TOKENS: longest rows of letters a .. z, of digits, single other bytes, any blanks (32) between.");
        // a and z are letters: a row with one more is another word. 96 and 123 are none.
        law("abars", 0);
        law("zbars", 0);
        law("barsa", 0);
        law("barsz", 0);
        law("bars`", 4);
        law("bars{", 4);
        law("`bars", 0);
        law("{bars", 0);
        law("Bars", 0);
        law("bArs", 0);
        law("barsA", 4);
        law("barsZ", 4);
        // 0 and 9 are digits; 47 and 58 are none.
        law("ranks 0", FINE);
        law("ranks 9", FINE);
        due("ranks 09", rank("ranks 09"), 9);
        due("ranks 90", rank("ranks 90"), 90);
        law("ranks 9/", 8);
        law("ranks 9:", 7);
        law("ranks /9", 6);
        law("ranks :9", 6);
        law("ranks 9:0", 7);
        // Blanks are 32 alone, as many as one likes; 31 and 33 are bytes by themselves.
        law("ranks 9 ", FINE);
        law("ranks 9\37", 7);
        law("ranks 9!", 7);
        law("ranks\0379", 5);
        law("ranks 9\0", 7);
        law("ranks 9\377", 7);
        law("ranks 9\n", 7);
        law("ranks9", FINE);
        law("   ranks   9   if   9   =   9   ", FINE);
        law("ranks9if9=9", FINE);
        due("ranks9if9=9", rank("ranks9if9=9"), 9);
        // The longest rows: blanks part them, other bytes go by one.
        law("ran ks 9", 0);
        law("ranks 9 9", 8);
        law("ranks 1 if 1 = = 1", 15);
        law("ranks 1 if 1 == 1", 14);
        law("ranks 1 if 1 <= 1", 14);
        law("ranks 1ifif", 7);
        law("ranks 1 i f", 8);
        law("ranks 12if", 10);
        law("ranks 9if9=9or9=9and9=9", FINE);
        law("ranks 9if9=9or 9=9andnot9=9", 18);
    }

    private static void clauses() {
        CHECKS.says("Of both languages: CLAUSE {\";\" CLAUSE}, 12 at most (FAULT at the 13th's first TOKEN).");
        law("bars", FINE);
        law(Checks.repeated("bars", 12, ";"), FINE);
        law(Checks.repeated("bars", 13, ";"), 60);
        law(Checks.repeated("bars", 12, ";") + ";   bars", 63);
        law(Checks.repeated("bars", 12, ";") + ";?", 60);
        law(Checks.repeated("bars", 12, ";") + ";", 60);
        law(Checks.repeated("bars", 12, ";") + ";  ", 62);
        law(Checks.repeated("bars", 12, ";") + "?", 59);
        law(Checks.repeated("bars", 11, ";") + ";", 55);
        law(Checks.repeated("bars", 11, ";") + ";?", 55);
        orders(Checks.repeated("build", 12, ";"), FINE);
        orders(Checks.repeated("build", 13, ";"), 72);
        orders(Checks.repeated("build", 12, ";") + ";", 72);
        orders(Checks.repeated("build", 12, ";") + " ; build", 74);
        PeeledHash x = new PeeledHash();
        due("the 12th is run", Checks.orders(x, Checks.repeated("build", 11, ";") + ";add 5"), 12);
        due("key(5, 0)", x.key(5, 0), 1);
        due("of 13 none is run", Checks.orders(x, Checks.repeated("build", 12, ";") + ";add 6"), -6);
        due("key(6, 0)", x.key(6, 0), 0);
        due("count(13): none of the 12 was run", x.count(13), 11);
        due("the 12th ranks", rank(Checks.repeated("ranks 1", 11, ";") + ";ranks 12"), 12);
    }

    private static void grammar() {
        CHECKS.says("PLAIN: \"not\" PLAIN | \"(\" TEST \")\" | SUM (\"<\" | \">\" | \"=\") SUM.");
        law("bars if 1=1", FINE);
        law("bars if (1=1)", FINE);
        law("bars if (1)=1", 10);
        law("bars if (1=1", 12);
        law("bars if 1=1)", 11);
        law("bars if ()", 9);
        law("bars if not", 11);
        law("bars if not not (not 1=1)", FINE);
        law("bars if 1", 9);
        law("bars if 1=", 10);
        law("bars if =1", 8);
        law("bars if 1=1=1", 11);
        law("bars if 1=not 1", 10);
        law("bars if 1?1", 9);
        CHECKS.says("TEST: BOTH {\"or\" BOTH}. BOTH: PLAIN {\"and\" PLAIN}.");
        law("bars if 1=1 or", 14);
        law("bars if 1=1 and", 15);
        law("bars if or 1=1", 8);
        law("bars if 1=1 or and 1=1", 15);
        law("bars if 1=1 and or 1=1", 16);
        law("bars if 1=1 1=1", 12);
        CHECKS.says("SUM: TERM {(\"+\" | \"-\") TERM}. TERM: PIECE {(\"*\" | \"/\" | \"%\") PIECE}.");
        law("ranks", 5);
        law("ranks +1", 6);
        law("ranks -1", 6);
        law("ranks 1-", 8);
        law("ranks 1--1", 8);
        law("ranks 1*", 8);
        law("ranks 1*/1", 8);
        law("ranks *1", 6);
        law("ranks 1 1", 8);
        CHECKS.says("(TERMS of TEXTS are none of those above.)");
        PeeledHash x = new PeeledHash();
        due("law()", Checks.law(x, "ranks 2 + 3 * 4 - 20 / 7 % 2"), 0);
        due("2, 12 and 0 are its terms", x.compare(0, 0), 14);
        int[] terms = {0, 1, 0};
        for (int what = 0; what < 3; what++) {
            due("terms 0 to 2 are as they were: count(" + (13 + what) + ")", x.count(13 + what), terms[what]);
        }
        law("ranks slips", 6);
        orders("add slips", 4);
        orders("add mood", 4);
        CHECKS.says("\"[\" SUM \"]\" | a word, as told.");
        law("ranks []", 7);
        law("ranks [1", 8);
        law("ranks [1)", 8);
        law("ranks 1]", 7);
        law("ranks [1=1]", 8);
        law("ranks (1)", 6);
        CHECKS.says("CLAUSE: (\"ranks\" SUM | \"bars\") [\"if\" TEST].");
        law("bars 1", 5);
        law("ranks if 1=1", 6);
        law("bars if", 7);
        law("bars if 1=1 if 1=1", 12);
        law("add 1", 0);
        law("if 1=1", 0);
        law("ranks 1 times 1", 8);
    }

    /** Each form with all that a, b, c can be; by the rules "not" goes ahead of "and", "and" ahead of "or". */
    private static void truths() {
        CHECKS.says("TEST: BOTH {\"or\" BOTH}. BOTH: PLAIN {\"and\" PLAIN}. PLAIN: \"not\" PLAIN | \"(\" TEST \")\"");
        for (int of = 0; of < 8; of++) {
            boolean a = (of & 1) != 0;
            boolean b = (of & 2) != 0;
            boolean c = (of & 4) != 0;
            truth(of, "a", a);
            truth(of, "not a", !a);
            truth(of, "not not a", a);
            truth(of, "not not not a", !a);
            truth(of, "not (a)", !a);
            truth(of, "not (not a)", a);
            truth(of, "not (not (not a))", !a);
            truth(of, "not not (not a)", !a);
            truth(of, "a and b", a && b);
            truth(of, "a or b", a || b);
            truth(of, "not a and b", !a && b);
            truth(of, "not a or b", !a || b);
            truth(of, "a and not b", a && !b);
            truth(of, "a or not b", a || !b);
            truth(of, "not (a and b)", !(a && b));
            truth(of, "not (a or b)", !(a || b));
            truth(of, "a and b or c", a && b || c);
            truth(of, "a or b and c", a || b && c);
            truth(of, "(a or b) and c", (a || b) && c);
            truth(of, "a and (b or c)", a && (b || c));
            truth(of, "not a and not b and not c", !a && !b && !c);
            truth(of, "not a or not b or not c", !a || !b || !c);
            truth(of, "not (a or b) and not c", !(a || b) && !c);
            truth(of, "not (a and b) or not c", !(a && b) || !c);
            truth(of, "not (not a and b) or not not c and a", !(!a && b) || c && a);
            truth(of, "a or b or c", a || b || c);
            truth(of, "a and b and c", a && b && c);
            truth(of, "not (not (a or b) or c)", !(!(a || b) || c));
        }
    }

    private static void truth(int of, String form, boolean so) {
        String test = form.replaceAll("\\ba\\b", (of & 1) != 0 ? "1=1" : "1>1");
        test = test.replaceAll("\\bb\\b", (of & 2) != 0 ? "1<2" : "2<1");
        test = test.replaceAll("\\bc\\b", (of & 4) != 0 ? "2>1" : "1=2");
        due("bars if " + test, barred(test), so ? 1 : 0);
        due("ranks 7 if " + test, rank("ranks 7 if " + test), so ? 7 : 0);
        due("build if " + test, Checks.orders(new PeeledHash(), "build if " + test), so ? 1 : 0);
    }

    private static void numbers() {
        CHECKS.says("PIECE: NUMBER (to 1,000)");
        law("ranks 1000", FINE);
        law("ranks 1001", 6);
        law("ranks 0", FINE);
        law("ranks 01000", FINE);
        law("ranks 01001", 6);
        law("ranks 10000", 6);
        law("ranks 2147483648", 6);
        law("ranks 4294967296", 6);
        law("ranks 18446744073709551616", 6);
        law("ranks 1 + 1001", 10);
        law("bars if 1 = 1001", 12);
        orders("add 1000", FINE);
        orders("add 1001", 4);
        due("1000 is 1000", barred("1000 = 999 + 1"), 1);
    }

    private static void pieces() {
        CHECKS.says("50 PIECES that are NUMBERS and words (FAULT at the 51st)");
        law("ranks " + Checks.repeated("1", 50, "+"), FINE);
        law("ranks " + Checks.repeated("1", 51, "+"), 6 + 2 * 50);
        law("ranks " + Checks.repeated("key", 50, "+"), FINE);
        law("ranks " + Checks.repeated("key", 51, "+"), 6 + 4 * 50);
        law("ranks " + Checks.repeated("[1]", 50, "+"), FINE);
        law("ranks " + Checks.repeated("[1]", 51, "+"), 6 + 4 * 50 + 1);
        law("bars if " + Checks.repeated("1=1", 25, "or "), FINE);
        law("bars if " + Checks.repeated("1=1", 25, "or ") + "or 1=1", 8 + 6 * 25);
        law("bars if " + Checks.repeated("1=1", 24, "or ") + "or 1=1+1", 8 + 6 * 24 + 4);
        law(Checks.repeated("ranks 1+1+1+1", 12, ";") + "+1+1", FINE);
        law(Checks.repeated("ranks 1+1+1+1", 12, ";") + "+1+1+1", 14 * 12 + 4);
        due("all 50 count", rank("ranks " + Checks.repeated("1", 50, "+")), 50);
        orders("add " + Checks.repeated("1", 50, "+"), FINE);
        orders("add " + Checks.repeated("1", 51, "+"), 4 + 2 * 50);
        orders("add " + Checks.repeated("done", 50, "+"), FINE);
        orders("add " + Checks.repeated("done", 51, "+"), 4 + 5 * 50);
    }

    private static void brackets() {
        CHECKS.says("8 brackets of both kinds within one another (FAULT at the 9th) at most.");
        law("ranks " + "[".repeat(8) + "1" + "]".repeat(8), FINE);
        law("ranks " + "[".repeat(9) + "1" + "]".repeat(9), 6 + 8);
        law("bars if " + "(".repeat(8) + "1=1" + ")".repeat(8), FINE);
        law("bars if " + "(".repeat(9) + "1=1" + ")".repeat(9), 8 + 8);
        for (int round = 0; round <= 8; round++) {
            String open = "(".repeat(round) + "1=" + "[".repeat(8 - round);
            String close = "]".repeat(8 - round) + ")".repeat(round);
            law("bars if " + open + "1" + close, FINE);
            law("bars if " + open + "[1]" + close, 8 + round + 2 + 8 - round);
        }
        law("bars if ((((((((1=1)and(1=1))))))))", FINE);
        law("ranks " + Checks.repeated("[1]", 20, "+"), FINE);
        law("ranks [[[[[[[[1]+[1]]]]]]]]", FINE);
        law("ranks [[[[[[[1+[[1]]]]]]]]]", 16);
        law("ranks " + "[".repeat(9), 14);
        orders("add " + "[".repeat(8) + "1" + "]".repeat(8), FINE);
        orders("add " + "[".repeat(9) + "1" + "]".repeat(9), 4 + 8);
        orders("build if " + "(".repeat(8) + "1=1" + ")".repeat(8), FINE);
        orders("build if " + "(".repeat(9) + "1=1" + ")".repeat(9), 9 + 8);
        due("the sum within eight", rank("ranks " + "[".repeat(8) + "7" + "]".repeat(8)), 7);
    }

    private static void faultsAtTheEnd() {
        CHECKS.says("FAULT: the first TOKEN that can't go on there (the end's: the TEXT's length).");
        law("", 0);
        law(" ", 1);
        law("ranks", 5);
        law("ranks ", 6);
        law("ranks 1;", 8);
        law("ranks 1 ; ", 10);
        law("ranks [1", 8);
        law("bars if (1=1   ", 15);
        orders("", 0);
        orders("  ", 2);
        orders("add", 3);
        orders("add 1 times", 11);
        orders("add degree", 10);
        orders("add number ", 11);
        orders("add 1;", 6);
    }

    private static void beyond() {
        CHECKS.says("Beyond 1,000,000,000 either way, or divided by 0 (/ cut towards 0, % what is left then), a SUM, a TEST is"
                + " BROKEN");
        String most = "1000*1000*1000";
        String least = "[0-1000]*1000*1000";
        isBroken(most, false);
        isBroken(most + "+0", false);
        isBroken(most + "+1", true);
        isBroken("1+" + most, true);
        isBroken(most + "-1", false);
        isBroken("[" + most + "-1]+1", false);
        isBroken("[" + most + "-1]+2", true);
        isBroken(most + "*1", false);
        isBroken(most + "*2", true);
        isBroken(most + "*[0-1]", false);
        isBroken(least, false);
        isBroken(least + "-0", false);
        isBroken(least + "-1", true);
        isBroken("0-1-" + most, true);
        isBroken(least + "+1", false);
        isBroken(least + "*2", true);
        isBroken(least + "/[0-1]", false);
        isBroken("0-" + most, false);
        isBroken(Checks.repeated("1000", 12, "*"), true);
        isBroken("0*" + Checks.repeated("1000", 12, "*"), false);
        due("the most is what it is", barred(most + "/1000/1000=1000 and " + most + "%1000=0"), 1);
        due("the least is what it is", barred(least + "/1000/1000=0-1000"), 1);
        due("the most and the most in a test", barred(most + "=" + most), 1);
        due("the least below the most in a test", barred(least + "<" + most), 1);
    }

    private static void divided() {
        isBroken("1/0", true);
        isBroken("0/0", true);
        isBroken("1%0", true);
        isBroken("0%0", true);
        isBroken("1/[1-1]", true);
        isBroken("1%[1-1]", true);
        isBroken("0/1", false);
        isBroken("0%1", false);
        isBroken("0*[1/0]", true);
        due("7/2", rank("ranks 7/2"), 3);
        due("[0-7]/2", rank("ranks 10+[0-7]/2"), 7);
        due("7/[0-2]", rank("ranks 10+7/[0-2]"), 7);
        due("[0-7]/[0-2]", rank("ranks 10+[0-7]/[0-2]"), 13);
        due("1/2", rank("ranks 10+1/2"), 10);
        due("[0-1]/2", rank("ranks 10+[0-1]/2"), 10);
        due("7%2", rank("ranks 10+7%2"), 11);
        due("[0-7]%2", rank("ranks 10+[0-7]%2"), 9);
        due("7%[0-2]", rank("ranks 10+7%[0-2]"), 11);
        due("[0-7]%[0-2]", rank("ranks 10+[0-7]%[0-2]"), 9);
        due("6%2", rank("ranks 10+6%2"), 10);
        due("5%7", rank("ranks 10+5%7"), 15);
    }

    private static void shortCuts() {
        CHECKS.says("(\"or\", \"and\" ask what stands behind only if it can still matter)");
        String so = "1=1";
        String not = "1=2";
        String broken = "1/0=1";
        String[] alike = {"1=2", "2<1", "1>2", "1<1", "1>1", "(1=2)"};
        for (String one : alike) {
            due("not " + one, barred("not " + one), 1);
            due(one + " or so", barred(one + " or " + so), 1);
            due(one + " and so", barred(one + " and " + so), 0);
            due("so and " + one, barred(so + " and " + one), 0);
            due("so or " + one, barred(so + " or " + one), 1);
            due(one + " and broken", barred("not (" + one + " and " + broken + ")"), 1);
            due(one + " or broken", barred("not (" + one + " or " + broken + ")"), 0);
        }
        String[] others = {"1=1", "1<2", "2>1", "(1=1)"};
        for (String one : others) {
            due("not " + one, barred("not " + one), 0);
            due(one + " or broken", barred(one + " or " + broken), 1);
            due(one + " and broken", barred("not (" + one + " and " + broken + ")"), 0);
            due(one + " and so", barred(one + " and " + so), 1);
        }
        due("so or broken", barred(so + " or " + broken), 1);
        due("not so or broken", barred("not (" + not + " or " + broken + ")"), 0);
        due("not so or broken", barred(not + " or " + broken), 0);
        due("not so and broken", barred("not (" + not + " and " + broken + ")"), 1);
        due("so and broken", barred("not (" + so + " and " + broken + ")"), 0);
        due("so and broken", barred(so + " and " + broken), 0);
        due("not so or so or broken", barred(not + " or " + so + " or " + broken), 1);
        due("so and not so and broken", barred("not (" + so + " and " + not + " and " + broken + ")"), 1);
        due("not so and broken or so", barred(not + " and " + broken + " or " + so), 1);
        due("so or broken and so", barred(so + " or " + broken + " and " + so), 1);
        due("(so or broken) and so", barred("(" + so + " or " + broken + ") and " + so), 1);
        due("(so or broken) and broken", barred("(" + so + " or " + broken + ") and " + broken), 0);
        PeeledHash x = new PeeledHash();
        due("orders: so or broken", Checks.orders(x, "add 1 if " + so + " or " + broken), 1);
        due("orders: not so or broken", Checks.orders(x, "add 2 if " + not + " or " + broken), 0);
        due("orders: not (not so and broken)", Checks.orders(x, "add 3 if not (" + not + " and " + broken + ")"), 1);
        due("orders: not (so and broken)", Checks.orders(x, "add 4 if not (" + so + " and " + broken + ")"), 0);
    }
}
