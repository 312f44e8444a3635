import java.io.IOException;
import java.util.Set;
import java.util.function.Supplier;
import java.util.function.ToIntFunction;

/** Names the promise and the sentence of the document by which the answers that follow are due. */
final class Edge {
    private static final int INVALID = LockedCarts.INVALID_ARGUMENT;
    private static final Document DOCUMENT = read();
    private static String named = "";

    /** A call with the argument whose range is looked at. */
    interface Call {
        int on(LockedCarts x, int argument);
    }

    private Edge() {
    }

    private static Document read() {
        try {
            return new Document();
        } catch (IOException e) {
            throw new IllegalStateException("no document: " + e.getMessage());
        }
    }

    /** A sentence of the promise's own section. */
    static void of(int promise, String sentence) {
        of(promise, DOCUMENT.promise(promise), sentence);
    }

    /** A sentence of another section on which the promise rests. */
    static void of(int promise, String section, String sentence) {
        named = "promise " + promise + ", " + section + ", \"" + sentence + "\": ";
        Check.due(named + "stands in the document", DOCUMENT.quote(section, sentence) ? 1 : 0, 1);
    }

    static void due(String call, long got, long want) {
        Check.due(named + call, got, want);
    }

    /** That a call answers an error, and that all is then as without the call. */
    static void refused(Supplier<LockedCarts> race, String call, ToIntFunction<LockedCarts> calling, int error) {
        LockedCarts x = race.get();
        due(call, calling.applyAsInt(x), error);
        Check.same(named + "what there is behind " + call, Snapshot.whole(x), Snapshot.whole(race.get()));
    }

    /** A line of a promise that tells an argument's range: both sides of both ends. */
    static void range(int promise, String line, int least, int greatest, Supplier<LockedCarts> race, Call call) {
        of(promise, line);
        String section = DOCUMENT.promise(promise);
        DOCUMENT.quote(section, DOCUMENT.clause(section, "INVALID_ARGUMENT if"));
        for (int wrong : new int[] {least - 1, greatest + 1, Integer.MIN_VALUE, Integer.MAX_VALUE}) {
            refused(race, "with " + wrong, x -> call.on(x, wrong), INVALID);
        }
        for (int right : new int[] {least, greatest}) {
            int got = call.on(race.get(), right);
            due("with " + right, Math.min(got, 0), 0);
        }
    }

    /** Each word of the document must have been quoted, but for the sections and words that name no boundary. */
    static void allQuoted(Set<String> sections, Set<String> noBoundary) {
        for (String section : DOCUMENT.titles()) {
            if (sections.contains(section)) {
                continue;
            }
            for (String words : DOCUMENT.left(section)) {
                Check.due("a test or none for '" + section + ": " + words + "'", noBoundary.contains(words) ? 1 : 0, 1);
            }
        }
    }
}
