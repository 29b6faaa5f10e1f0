import java.io.IOException;
import java.nio.file.Files;
import java.nio.file.Path;

/** A test for each sentence of the document, and that no sentence of its terms and promises is without one. */
public final class SentencesTest extends Sentences {
    private static final Path DOCUMENT = Path.of("../shared/DOC.md");
    private static final String BEGIN = "## Terms";
    private static final String END = "## Not promised";

    private SentencesTest() {
    }

    public static void main(String[] args) throws IOException {
        SentencesOfTelling.all();
        SentencesOfRuns.all();
        SentencesOfReach.all();
        SentencesOfLaying.all();
        dueSome();
        CHECK.about("the document");
        if (Files.exists(DOCUMENT)) {
            read(Files.readString(DOCUMENT));
        } else {
            System.out.println("no " + DOCUMENT + ": that each sentence stands there is not looked at");
        }
        CHECK.end();
    }

    private static void read(String document) {
        String text = document.replaceAll("\\s+", " ");
        boolean[] isNamed = new boolean[text.length()];
        for (String words : named()) {
            due("says '" + words + "'", mark(text, words, isNamed) > 0, true);
        }
        dueAllNamed(text, isNamed);
    }

    private static int mark(String text, String words, boolean[] isNamed) {
        int count = 0;
        for (int at = text.indexOf(words); at >= 0; at = text.indexOf(words, at + 1)) {
            for (int i = 0; i < words.length(); i++) {
                isNamed[at + i] = true;
            }
            count++;
        }
        return count;
    }

    /** What is left once headings, signatures and fences are off must be no word. */
    private static void dueAllNamed(String text, boolean[] isNamed) {
        StringBuilder left = new StringBuilder();
        for (int i = text.indexOf(BEGIN) + BEGIN.length(); i < text.indexOf(END); i++) {
            left.append(isNamed[i] ? '|' : text.charAt(i));
        }
        String words = left.toString()
            .replaceAll("## Promise \\d+: (A new object|\\w+)", "|")
            .replaceAll("==== [IV]+\\. (REACH|LAID)?\\.?", "|")
            .replaceAll("`[^`|]*`:", "|")
            .replaceAll("```(text)?", "|");
        for (String part : words.split("\\|")) {
            due("is tested, '" + part.trim() + "'", part.matches("[^A-Za-z0-9]*"), true);
        }
    }
}
