import java.io.IOException;
import java.nio.file.Files;
import java.nio.file.Path;
import java.util.function.Supplier;
import java.util.function.ToLongFunction;

/** Sentences of the document that name a boundary, each with a test of its own. */
final class Edges {
    final Check check = new Check();
    private final String document;

    Edges() {
        document = plain(documentText());
    }

    /** The answers are what counts, so a document that is out of reach is no failure. */
    private static String documentText() {
        Path path = Path.of("../shared/DOC.md");
        try {
            return Files.isReadable(path) ? Files.readString(path) : "";
        } catch (IOException e) {
            return "";
        }
    }

    private static String plain(String text) {
        return text.replaceAll("\\s+", " ");
    }

    /** A quote that the document does not have would test a sentence that nobody wrote. */
    void sentence(String quote, Runnable test) {
        check.about("\"" + quote + "\"");
        if (!document.isEmpty()) {
            check.due("the document has this sentence", document.contains(plain(quote)), true);
        }
        test.run();
    }

    void due(String call, long got, long want) {
        check.due(call, got, want);
    }

    void due(String call, boolean got, boolean want) {
        check.due(call, got, want);
    }

    /** A refused call: the answer is due, and the object then goes on like a twin that never had the call. */
    void refused(String name, Supplier<MiceEngine> made, ToLongFunction<MiceEngine> call, long want) {
        MiceEngine x = made.get();
        check.due(name, call.applyAsLong(x), want);
        String is = Look.at(x);
        String was = Look.at(made.get());
        check.due(name + " changes something: " + firstOther(was, is), is.equals(was), true);
    }

    private static String firstOther(String was, String is) {
        String[] a = was.split("\n");
        String[] b = is.split("\n");
        for (int i = 0; i < Math.min(a.length, b.length); i++) {
            if (!a[i].equals(b[i])) {
                return a[i] + " became " + b[i];
            }
        }
        return "";
    }

    /** A call that changes something, for then a look must tell it: else refused() would tell nothing. */
    void heeded(String name, Supplier<MiceEngine> made, ToLongFunction<MiceEngine> call, long want) {
        MiceEngine x = made.get();
        check.due(name, call.applyAsLong(x), want);
        check.due(name + " changes something", Look.at(x).equals(Look.at(made.get())), false);
    }

    static long bit(boolean answer) {
        return answer ? 1 : 0;
    }

    static String times(int n, String part) {
        return part.repeat(n);
    }
}
