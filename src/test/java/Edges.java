import java.io.IOException;
import java.nio.file.Files;
import java.nio.file.Path;
import java.util.function.Supplier;
import java.util.function.ToIntFunction;

/**
 * Tests of boundary cases. Each begins with the words of the document that it looks at and the
 * promise that they bind; what fails then is printed with both.
 */
final class Edges {
    static final int NONE = -1, UNKNOWN = -1000000001, OUTSIDE = -1000000002, NOT = -1000000003, FULL = -1000000004;
    static final int LOW = Integer.MIN_VALUE;
    static final int HIGH = Integer.MAX_VALUE;
    private static final Path DOCUMENT = Path.of("../shared/DOC.md");

    private final Due due;
    /** Empty where the document cannot be read: then the words are taken as they are told. */
    private final String document;
    private String sentence = "";
    private int looksBefore = -1;

    Edges(String name) throws IOException {
        due = new Due(name);
        document = Files.isReadable(DOCUMENT) ? flat(Files.readString(DOCUMENT)) : "";
    }

    /** The words have to stand in the document, ahead of all promises or below this one. */
    void sentence(int promise, String words) {
        closeSentence();
        sentence = "promise " + promise + ", '" + words + "': ";
        boolean stands = document.isEmpty() || forAll().contains(flat(words)) || below(promise).contains(flat(words));
        due.due(sentence + "stands in the document", stands, true);
        looksBefore = due.looks();
    }

    private void closeSentence() {
        if (looksBefore >= 0) {
            due.due(sentence + "is looked at", due.looks() > looksBefore, true);
        }
    }

    void due(String call, int got, int want) {
        due.due(sentence + call, got, want);
    }

    void due(String call, String got, String want) {
        due.due(sentence + call, got, want);
    }

    /** The call is refused, and whatever can be seen from there on is as if it had not been. */
    void refused(String call, Supplier<RankIndex> start, ToIntFunction<RankIndex> deed, int want) {
        due(call, deed.applyAsInt(start.get()), want);
        changesNothing(call, start, deed);
    }

    void changesNothing(String call, Supplier<RankIndex> start, ToIntFunction<RankIndex> deed) {
        Supplier<RankIndex> after = () -> {
            RankIndex x = start.get();
            deed.applyAsInt(x);
            return x;
        };
        due(call + " changes nothing", Look.onwards(after), Look.onwards(start));
    }

    void end() {
        closeSentence();
        due.end();
    }

    private String forAll() {
        return part("## What it is ", "## Promise 1: ");
    }

    private String below(int promise) {
        return part("## Promise " + promise + ": ", "## ");
    }

    private String part(String from, String to) {
        int start = document.indexOf(from);
        int end = start < 0 ? -1 : document.indexOf(to, start + from.length());
        return end < 0 ? "" : document.substring(start, end);
    }

    private static String flat(String text) {
        return text.replaceAll("\\s+", " ");
    }
}
