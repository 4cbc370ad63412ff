import java.io.IOException;
import java.nio.charset.StandardCharsets;
import java.nio.file.Files;
import java.nio.file.Path;

/** What the tests share: answers that are due, sentences of the document, and texts put on the tape. */
final class Checks {
    private static final Path DOCUMENT = Path.of("../shared/DOC.md");
    private int wrong = 0;
    private String document;
    private String sentence = "";

    void due(String call, long got, long want) {
        if (got != want) {
            wrong++;
            System.out.println((sentence.isEmpty() ? "" : "[" + sentence + "] ") + call + " answered " + got + ", due is "
                    + want);
        }
    }

    /** The sentence that the checks behind it are for. It must stand in the document word for word, if that is here. */
    void says(String words) {
        sentence = "";
        if (document == null) {
            document = documentOnOneLine();
        }
        due("the document says: " + words, document.isEmpty() || document.contains(words) ? 1 : 0, 1);
        sentence = words;
    }

    static String documentOnOneLine() {
        try {
            return Files.exists(DOCUMENT) ? Files.readString(DOCUMENT).replaceAll("\\s+", " ") : "";
        } catch (IOException unreadable) {
            return "";
        }
    }

    void finish(String name) {
        sentence = "";
        System.out.println(name + ": " + (wrong == 0 ? "all answers are as due" : wrong + " answers are not as due"));
        if (wrong != 0) {
            System.exit(1);
        }
    }

    /** Puts the text behind what the tape has; byte for byte, characters 0 to 255. */
    static int tape(PeeledHash x, String text) {
        byte[] bytes = text.getBytes(StandardCharsets.ISO_8859_1);
        int before = x.count(6);
        for (int at = 0; at < bytes.length; at += 20) {
            int[] fed = new int[5];
            for (int i = 0; i < 20; i++) {
                int one = at + i < bytes.length ? bytes[at + i] & 255 : 0;
                fed[i / 4] = fed[i / 4] << 8 | one;
            }
            if (x.feed(fed[0], fed[1], fed[2], fed[3], fed[4]) < 0) {
                return PeeledHash.NONE;
            }
        }
        return x.end(before + bytes.length);
    }

    static int law(PeeledHash x, String text) {
        tape(x, text);
        return x.law();
    }

    static int orders(PeeledHash x, String text) {
        tape(x, text);
        return x.orders();
    }

    /** A new object with these keys. */
    static PeeledHash with(int... keys) {
        PeeledHash x = new PeeledHash();
        for (int key : keys) {
            x.add(key);
        }
        return x;
    }

    static String repeated(String text, int times, String between) {
        StringBuilder all = new StringBuilder();
        for (int i = 0; i < times; i++) {
            all.append(i == 0 ? "" : between).append(text);
        }
        return all.toString();
    }
}
