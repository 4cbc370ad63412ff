import java.nio.charset.StandardCharsets;

/** What the tests share: answers that are due, and texts put on the tape. */
final class Checks {
    private int wrong = 0;

    void due(String call, long got, long want) {
        if (got != want) {
            wrong++;
            System.out.println(call + " answered " + got + ", due is " + want);
        }
    }

    void finish(String name) {
        System.out.println(name + ": " + (wrong == 0 ? "all answers are as due" : wrong + " answers are not as due"));
        if (wrong != 0) {
            System.exit(1);
        }
    }

    /** Puts the text behind what the tape has; byte for byte, characters 0 to 255. */
    static int tape(PeeledHash x, String text) {
        byte[] bytes = text.getBytes(StandardCharsets.ISO_8859_1);
        int before = x.count(6);
        for (int at = 0; at < bytes.length; at += 20) {
            int[] fed = new int[5];
            for (int i = 0; i < 20; i++) {
                int one = at + i < bytes.length ? bytes[at + i] & 255 : 0;
                fed[i / 4] = fed[i / 4] << 8 | one;
            }
            if (x.feed(fed[0], fed[1], fed[2], fed[3], fed[4]) < 0) {
                return PeeledHash.NONE;
            }
        }
        return x.end(before + bytes.length);
    }

    static int law(PeeledHash x, String text) {
        tape(x, text);
        return x.law();
    }

    static int orders(PeeledHash x, String text) {
        tape(x, text);
        return x.orders();
    }

    /** A new object with these keys. */
    static PeeledHash with(int... keys) {
        PeeledHash x = new PeeledHash();
        for (int key : keys) {
            x.add(key);
        }
        return x;
    }

    static String repeated(String text, int times, String between) {
        StringBuilder all = new StringBuilder();
        for (int i = 0; i < times; i++) {
            all.append(i == 0 ? "" : between).append(text);
        }
        return all.toString();
    }
}
