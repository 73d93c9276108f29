import java.nio.charset.StandardCharsets;
import java.util.ArrayList;
import java.util.List;

/** Counts answers that are not as due, and types texts. */
final class Due {
    private static final int SHOWN_AT_MOST = 40;

    private final List<String> sentences = new ArrayList<>();
    private String sentence = "";
    private int wrong = 0;
    private int asked = 0;

    /** The words of the document that the answers from here on hold to. */
    void sentence(String words) {
        sentence = "'" + words + "': ";
        sentences.add(words);
    }

    List<String> sentences() {
        return sentences;
    }

    void due(String call, long got, long want) {
        asked++;
        if (got != want) {
            wrong++;
            if (wrong <= SHOWN_AT_MOST) {
                System.out.println(sentence + call + " answered " + got + ", due is " + want);
            }
        }
    }

    void alike(String call, String got, String want) {
        if (!got.equals(want)) {
            System.out.println(got);
            System.out.println(want);
        }
        due(call, got.equals(want) ? 1 : 0, 1);
    }

    void end(String name) {
        System.out.println(name + ": " + asked + " answers, " + wrong + " not as due");
        if (wrong != 0) {
            System.exit(1);
        }
    }

    /** The bytes of a text as type() takes them: rows of a number and how many bytes of it count. */
    static long[][] asCalls(String text) {
        byte[] bytes = text.getBytes(StandardCharsets.ISO_8859_1);
        long[][] calls = new long[(bytes.length + 7) / 8][2];
        for (int i = 0; i < bytes.length; i++) {
            long[] call = calls[i / 8];
            call[0] = call[0] << 8 | bytes[i] & 255;
            call[1]++;
        }
        return calls;
    }

    static void type(CheeseFirst cheese, String text) {
        for (long[] call : asCalls(text)) {
            cheese.type(call[0], (int) call[1]);
        }
    }

    /** What cellar() answers to a text, on top of what was read before. */
    static int read(CheeseFirst cheese, String text) {
        cheese.clear();
        type(cheese, text);
        return cheese.cellar();
    }

    static CheeseFirst of(String text) {
        CheeseFirst cheese = new CheeseFirst();
        int items = read(cheese, text);
        if (items < 0) {
            throw new IllegalStateException("the test's own cellar has a fault at " + (-10 - items) + ": " + text);
        }
        return cheese;
    }
}
