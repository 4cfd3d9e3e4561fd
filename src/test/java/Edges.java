import java.util.List;
import java.util.function.Supplier;
import java.util.function.ToIntFunction;

/** Tests of the document's own sentences: each stands under the words that it would break. */
final class Edges {
    private final Due due;
    private final Doc doc;
    private String words = "";

    Edges(Due due, Doc doc) {
        this.due = due;
        this.doc = doc;
    }

    /** The words of the document that the answers from here on are due by. */
    void says(String heading, String sentence) {
        words = heading + " says '" + sentence + "'";
        due.holds(words, doc.quote(heading, sentence));
    }

    /** Words that name nothing that a call could answer otherwise. */
    void namesNoCase(String sentence) {
        due.holds("Terms say '" + sentence + "'", doc.quote("Terms", sentence));
    }

    void is(String call, long got, long want) {
        due.is(words + ": " + call, got, want);
    }

    void holds(String what, boolean so) {
        due.holds(words + ": " + what, so);
    }

    /** The call answers so, and a second object that it was not made on is the same then. */
    void changesNothing(String call, Supplier<TilingBeats> made, ToIntFunction<TilingBeats> asked, int want) {
        TilingBeats x = made.get();
        is(call, asked.applyAsInt(x), want);
        same(call, x, made.get());
    }

    void same(String call, TilingBeats x, TilingBeats like) {
        List<String> seen = Whole.of(x);
        List<String> wanted = Whole.of(like);
        for (int i = 0; i < Math.max(seen.size(), wanted.size()); i++) {
            String got = i < seen.size() ? seen.get(i) : "nothing";
            String want = i < wanted.size() ? wanted.get(i) : "nothing";
            holds("after " + call + ": " + got + ", due is " + want, got.equals(want));
        }
    }
}
