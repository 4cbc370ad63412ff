import java.nio.charset.StandardCharsets;
import java.util.Random;

/** Random runs of calls, the same at each start, whose answers are held against the plain model. */
public final class ModelTest {
    private static final int CALLS = 512;
    private final Random random;
    private final PeeledHash program = new PeeledHash();
    private final PlainModel model = new PlainModel();
    private final StringBuilder told = new StringBuilder();
    private int calls = 0;
    private int wrong = 0;

    private ModelTest(long seed) {
        random = new Random(seed);
    }

    public static void main(String[] args) {
        int runs = args.length > 0 ? Integer.parseInt(args[0]) : 250;
        long first = args.length > 1 ? Long.parseLong(args[1]) : 1;
        int wrong = 0;
        for (int run = 0; run < runs; run++) {
            ModelTest test = new ModelTest(first + run);
            test.run();
            if (test.wrong > 0) {
                wrong++;
                System.out.println("seed " + (first + run) + ":\n" + test.told);
            }
        }
        System.out.println("ModelTest: " + (wrong == 0 ? runs + " runs are as the model tells" : wrong + " runs are not"));
        if (wrong > 0) {
            System.exit(1);
        }
    }

    private void run() {
        int manyKeys = random.nextInt(3);
        while (calls < CALLS && wrong == 0) {
            step(manyKeys);
        }
    }

    private void same(String call, long got, long want) {
        calls++;
        told.append(call).append(" -> ").append(got).append('\n');
        // What calls behind the last of 512 answer is free.
        if (got != want && calls <= CALLS) {
            wrong++;
            told.append("   the model tells ").append(want).append('\n');
        }
    }

    private int any(int below) {
        return random.nextInt(below);
    }

    private int near(int least, int most) {
        int kind = any(24);
        if (kind == 0) {
            return least - 1 - any(3);
        }
        if (kind == 1) {
            return most + 1 + any(3);
        }
        if (kind == 2) {
            return any(2) == 0 ? Integer.MIN_VALUE : Integer.MAX_VALUE;
        }
        return kind == 3 ? least : kind == 4 ? most : least + any(most - least + 1);
    }

    private int aKey() {
        return any(3) == 0 ? near(0, 999) : any(40);
    }

    private void step(int manyKeys) {
        switch (any(24)) {
            case 0, 1, 2 -> {
                for (int i = 0; i <= manyKeys; i++) {
                    int k = aKey();
                    same("add(" + k + ")", program.add(k), model.changeByCall(0, k));
                }
            }
            case 3 -> {
                int k = any(2) == 0 ? model.there(any(30)) : aKey();
                same("take(" + k + ")", program.take(k), model.changeByCall(1, k));
            }
            case 4 -> {
                int k = any(3) == 0 ? 20 - any(8) : near(2, 20);
                same("side(" + k + ")", program.side(k), model.changeByCall(2, k));
            }
            case 5 -> {
                int k = near(0, 255);
                same("seed(" + k + ")", program.seed(k), model.changeByCall(3, k));
            }
            case 6, 7 -> same("build()", program.build(), model.changeByCall(4, 0));
            case 8 -> {
                for (int i = any(4); i >= 0; i--) {
                    same("undo()", program.undo(), model.undo());
                }
            }
            case 9, 10 -> textCalls();
            case 11 -> lawCalls();
            case 12 -> rowCalls();
            case 13 -> termCalls();
            case 14 -> seenCalls();
            case 15 -> imageCalls();
            case 16 -> yearCalls();
            case 17 -> peelCalls();
            case 18, 19 -> tableCalls();
            case 20 -> counts();
            default -> keyCalls();
        }
        same("status()", program.status(), model.status);
    }

    private void put(String text) {
        byte[] bytes = text.getBytes(StandardCharsets.ISO_8859_1);
        told.append("tape: ").append(text).append('\n');
        int length = model.count(6) + bytes.length;
        for (int at = 0; at < bytes.length; at += 20) {
            int[] f = new int[5];
            for (int i = 0; i < 20; i++) {
                f[i / 4] = f[i / 4] << 8 | (at + i < bytes.length ? bytes[at + i] & 255 : any(256));
            }
            same("feed", program.feed(f[0], f[1], f[2], f[3], f[4]), model.feed(f[0], f[1], f[2], f[3], f[4]));
        }
        same("end(" + length + ")", program.end(length), model.end(length));
    }

    private void textCalls() {
        put(new Texts(random, true).text());
        same("orders()", program.orders(), model.orders());
        same("fault()", program.fault(), model.fault);
        same("stopped()", program.stopped(), model.stopped);
    }

    private void lawCalls() {
        put(new Texts(random, false).text());
        same("law()", program.law(), model.law());
        same("fault()", program.fault(), model.fault);
        int law = near(-1, Math.max(0, model.count(4) - 1));
        same("force(" + law + ")", program.force(law), model.force(law));
    }

    private void rowCalls() {
        StringBuilder row = new StringBuilder();
        for (int i = any(9); i > 0; i--) {
            row.append((char) (any(4) == 0 ? any(256) : any(10))).append((char) any(any(3) == 0 ? 256 : 5));
        }
        row.append(any(3) == 0 ? "x" : "");
        put(row.toString());
        int n = any(6) == 0 ? near(0, 30) : model.count(6);
        same("end(" + n + ")", program.end(n), model.end(n));
        same("row()", program.row(), model.row());
        same("blanks()", program.blanks(), model.blanks);
    }

    private void termCalls() {
        int what = near(0, 2);
        int value = what == 0 ? (any(2) == 0 ? 999 : near(0, 999)) : near(0, what == 1 ? 10 : 9);
        same("terms(" + what + ", " + value + ")", program.terms(what, value), model.terms(what, value));
        int k = near(1, 20);
        int n = near(0, 99);
        same("few(" + k + ", " + n + ")", program.few(k, n), model.few(k, n));
    }

    private void seenCalls() {
        int vertex = any(3) == 0 ? near(0, 59) : any(3 * model.count(1));
        int is = any(20) == 0 ? near(0, 1) : any(5) == 0 ? 1 : 0;
        same("seen(" + vertex + ", " + is + ")", program.seen(vertex, is), model.seen(vertex, is));
        int i = near(-1, 9);
        same("canBe(" + i + ")", program.canBe(i), model.canBe(i));
        int what = near(0, 1);
        same("ask(" + what + ")", program.ask(what), model.ask(what));
        if (any(5) == 0) {
            same("forget()", program.forget(), model.forget());
        }
    }

    private void imageCalls() {
        int k = near(0, 1);
        if (any(2) == 0) {
            same("image(" + k + ")", program.image(k), model.image(k));
        } else {
            same("back(" + k + ")", program.back(k), model.back(k));
        }
    }

    private void yearCalls() {
        int sowing = near(0, 1_000_000);
        int n = near(1, 60);
        same("years(" + sowing + ", " + n + ")", program.years(sowing, n), model.years(sowing, n));
        int k = near(0, 39);
        same("drawn(" + k + ")", program.drawn(k), model.drawn(k));
    }

    private void peelCalls() {
        int seed = near(0, 255);
        same("core(" + seed + ")", program.core(seed), model.core(seed));
        int i = near(0, Math.max(0, model.count(0) - 1));
        for (int what = 0; what < 3; what++) {
            same("peeled(" + i + ", " + what + ")", program.peeled(i, what), model.peeled(i, what));
        }
        int g = any(3) == 0 ? -1 : near(-1, 255);
        same("good(" + g + ")", program.good(g), model.good(g));
        same("leastSide()", program.leastSide(), model.leastSide());
    }

    private void tableCalls() {
        int key = aKey();
        for (int what = 0; what < 3; what++) {
            same("found(" + key + ", " + what + ")", program.found(key, what), model.found(key, what));
        }
        for (int i = 0; i < 3; i++) {
            int what = near(0, 80);
            same("table(" + what + ")", program.table(what), model.table(what));
            int stranger = aKey();
            same("twin(" + stranger + ")", program.twin(stranger), model.twin(stranger));
        }
    }

    private void counts() {
        for (int what = -2; what < 18; what++) {
            same("count(" + what + ")", program.count(what), model.count(what));
        }
    }

    private void keyCalls() {
        int key = aKey();
        int what = near(0, 4);
        same("key(" + key + ", " + what + ")", program.key(key, what), model.key(key, what));
        int vertex = near(0, 3 * model.count(1) - 1);
        for (int of = 0; of < 2; of++) {
            same("vertex(" + vertex + ", " + of + ")", program.vertex(vertex, of), model.vertex(vertex, of));
        }
        int law = near(-1, Math.max(0, model.count(4) - 1));
        same("compare(" + law + ", " + vertex + ")", program.compare(law, vertex), model.compare(law, vertex));
        int i = near(0, 30);
        same("there(" + i + ")", program.there(i), model.there(i));
        same("ceiling(" + key + ")", program.ceiling(key), model.ceiling(key));
    }

    /** Texts of both languages, some of them spoilt. */
    private static final class Texts {
        private static final String[] LAW_WORDS = {"vertex", "part", "degree", "key", "seed", "time", "mood"};
        private static final String[] ORDER_WORDS = {"time", "done", "latest", "keys", "degree 5", "number 3",
            "degree 59", "number 999", "degree 0", "number 0"};
        private static final String[] SPOILS = {"if", "not", "or", "and", "times", "degree", "number", "1001", "60",
            "1000", "0", ";", ";", "(", ")", "[", "]", "+", "<", "A", "\u00e9", "\n", "bars", "build", "add", "x",
            "time", "00000000000000000000007", "99999999999999999999", "mood", "keys", ""};
        private final Random random;
        private final boolean orders;

        Texts(Random random, boolean orders) {
            this.random = random;
            this.orders = orders;
        }

        String text() {
            int clauses = any(30) == 0 ? 12 + any(2) : 1 + any(4);
            StringBuilder all = new StringBuilder();
            for (int i = 0; i < clauses; i++) {
                all.append(i == 0 ? "" : any(4) == 0 ? " ; " : ";").append(clauses > 9 ? shortClause() : clause());
            }
            String text = all.toString();
            if (any(25) == 0) {
                text = edge();
            }
            if (any(4) == 0) {
                text = spoilt(text);
            }
            if (any(8) == 0) {
                text = " ".repeat(any(4)) + text.replace(" ", "  ") + " ".repeat(any(4));
            }
            return text.substring(0, Math.min(text.length(), 400));
        }

        private String spoilt(String text) {
            int at = any(text.length() + 1);
            int to = Math.min(text.length(), at + any(3));
            if (any(4) == 0) {
                return text.substring(0, at);
            }
            return text.substring(0, at) + " " + SPOILS[any(SPOILS.length)] + " " + text.substring(to);
        }

        private String edge() {
            int extra = any(2);
            String verb = orders ? "add " : "ranks ";
            return switch (any(4)) {
                case 0 -> verb + "1" + "+1".repeat(49 + extra);
                case 1 -> verb + "[".repeat(8 + extra) + "7" + "]".repeat(8 + extra);
                case 2 -> verb + "7 if " + "(".repeat(5) + "[".repeat(3 + extra) + "1" + "]".repeat(3 + extra) + "=1"
                        + ")".repeat(5);
                default -> verb + "5 if " + "not ".repeat(70 + extra) + "1 = 2";
            };
        }

        private int any(int below) {
            return random.nextInt(below);
        }

        private String shortClause() {
            return orders ? (any(2) == 0 ? "build" : "add " + any(40)) : any(2) == 0 ? "bars if key=" + any(40) : "ranks 3";
        }

        private String clause() {
            String head;
            if (orders) {
                head = switch (any(6)) {
                    case 0 -> "build";
                    case 1 -> "take " + target(40);
                    case 2 -> "side " + target(21);
                    case 3 -> "seed " + target(256);
                    default -> "add " + target(40);
                };
                head += any(5) == 0 ? " times " + (1 + any(20)) : "";
            } else {
                head = any(3) == 0 ? "bars if [key % 7] = " + any(9) : "ranks " + sum(0);
                if (head.startsWith("bars")) {
                    return any(3) == 0 ? head + " and " + test(0) : head;
                }
            }
            return any(2) == 0 ? head + " if " + test(0) : head;
        }

        private String target(int below) {
            return switch (any(4)) {
                case 0 -> "[" + sum(0) + "] % " + below;
                case 1 -> "done * " + any(9) + " + " + any(below);
                case 2 -> "keys + " + any(below);
                default -> "" + any(below);
            };
        }

        private String test(int depth) {
            int kind = depth > 2 ? 9 : any(10);
            return switch (kind) {
                case 0 -> "(" + test(depth + 1) + ")";
                case 1 -> "not " + test(depth + 1);
                case 2 -> test(depth + 1) + " and " + test(depth + 1);
                case 3 -> test(depth + 1) + " or " + test(depth + 1);
                case 4 -> "not(" + test(depth + 1) + ")";
                default -> sum(1) + (any(2) == 0 ? "" : " ") + "<>=".charAt(any(3)) + sum(1);
            };
        }

        private String sum(int depth) {
            StringBuilder all = new StringBuilder(piece(depth));
            for (int i = any(3); i > 0; i--) {
                all.append("+-*/%".charAt(any(5))).append(piece(depth));
            }
            return all.toString();
        }

        private String piece(int depth) {
            if (depth < 3 && any(6) == 0) {
                return "[" + sum(depth + 1) + "]";
            }
            String[] words = orders ? ORDER_WORDS : LAW_WORDS;
            int kind = any(5);
            return kind == 0 ? "" + any(1001) : kind == 1 ? "" + any(12) : words[any(words.length)];
        }
    }
}
