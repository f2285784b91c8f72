import java.io.IOException;
import java.io.UncheckedIOException;
import java.nio.file.Files;
import java.nio.file.Path;
import java.util.function.Supplier;
import java.util.function.ToLongFunction;

/** Tests under the words of a sentence of the document: a wrong answer is told with the words that ask for another. */
final class Sentence {
    private static final String DOCUMENT = document();
    private static String words = "";

    private Sentence() {
    }

    /** The document, each stretch of white space being one blank. */
    static String document() {
        try {
            return Files.readString(Path.of("../shared/DOC.md")).replaceAll("\\s+", " ");
        } catch (IOException e) {
            throw new UncheckedIOException(e);
        }
    }

    /** What follows is a test of these words, which have to stand in the document. */
    static void is(String itsWords) {
        words = itsWords;
        Check.holds("that the document says \"" + words + "\"", DOCUMENT.contains(words));
    }

    static void due(String call, long got, long want) {
        Check.due(named(call), got, want);
    }

    static void dueNumber(String call, double got, double want) {
        Check.dueNumber(named(call), got, want);
    }

    static void holds(String what, boolean isSo) {
        Check.holds(named(what), isSo);
    }

    /**
     * The call is answered so, and leaves all that can be asked as it is on a like object without the call.
     * Two new objects each time: what an object answers after its 512th call is free.
     */
    static void refused(Supplier<BitTuner> maker, String call, ToLongFunction<BitTuner> asked, long want) {
        BitTuner x = maker.get();
        due(call, asked.applyAsLong(x), want);
        String left = everything(x);
        String before = everything(maker.get());
        holds(call + " changes nothing (" + before + "became " + left + ")", left.equals(before));
    }

    private static String named(String call) {
        return "\"" + words + "\": " + call;
    }

    /** All that calls tell of an object (some 230 calls), then what a VALUE more starts with. */
    private static String everything(BitTuner x) {
        StringBuilder all = new StringBuilder();
        for (int what = 0; what <= 3; what++) {
            all.append(x.count(what)).append(' ');
        }
        all.append(x.rows()).append(' ').append(x.price()).append(' ');
        for (int i = 0; i < 16; i++) {
            all.append(x.worstAt(i)).append(' ');
        }
        for (int v = 0; v < x.count(0); v++) {
            tell(x, v, all);
        }
        if (x.count(0) > 0) {
            tell(x, x.work(7, 0, 0), all);
        }
        return all.toString();
    }

    private static void tell(BitTuner x, int v, StringBuilder all) {
        for (int what = 0; what <= 9; what++) {
            all.append(x.about(v, what)).append(' ');
        }
        all.append(x.exact(v)).append(' ').append(x.tuned(v)).append(' ');
    }
}
