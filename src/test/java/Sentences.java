import java.util.ArrayList;
import java.util.List;

/** Tests by the document's own words: each case names its promise and the sentence that it would find broken. */
abstract class Sentences extends HandMade {
    private static final List<String> NAMED = new ArrayList<>();
    private static int askedAhead;

    /** All answers up to the next sentence are due by this one. */
    static void sentence(int promise, String words) {
        dueSome();
        NAMED.add(words);
        askedAhead = CHECK.asked();
        CHECK.about("promise " + promise + ", '" + words + "'");
    }

    /** A sentence that is named and then not asked for would look as if it were tested. */
    static void dueSome() {
        if (!NAMED.isEmpty()) {
            due("answers asked for", CHECK.asked() > askedAhead, true);
        }
    }

    static List<String> named() {
        return NAMED;
    }
}
