import java.io.IOException;
import java.nio.charset.StandardCharsets;
import java.nio.file.Files;
import java.nio.file.Path;

/**
 * The document, sentence by sentence: each sentence that names an edge has a test of its own, under its own
 * words, with answers that were worked out by hand. With the document's path as argument it also tells which
 * of its words are under no test, and which words of the tests are not in it.
 */
public final class EdgesTest {
    public static void main(String[] args) throws IOException {
        Due due = new Due();
        new TextEdges(due).run();
        new WinterEdges(due).run();
        new ValueEdges(due).run();
        new ChanceEdges(due).run();
        new RefusedEdges(due).run();
        if (args.length > 0) {
            tellUntested(due, Files.readString(Path.of(args[0]), StandardCharsets.UTF_8));
        }
        due.end("EdgesTest");
    }

    private static void tellUntested(Due due, String document) {
        String words = document.replaceAll("\\s+", " ");
        StringBuilder rest = new StringBuilder(words);
        for (String sentence : due.sentences()) {
            if (!words.contains(sentence)) {
                System.out.println("not in the document: " + sentence);
            }
            for (int at = words.indexOf(sentence); at >= 0; at = words.indexOf(sentence, at + 1)) {
                rest.replace(at, at + sentence.length(), "\n".repeat(sentence.length()));
            }
        }
        System.out.println(rest.toString().replaceAll("\n+", "\n"));
    }
}
