import java.util.ArrayList;
import java.util.List;
import java.util.function.Consumer;
import java.util.function.Supplier;
import java.util.function.ToLongFunction;

/** A boundary test: it names its promise and the sentence of the document that it holds. */
final class Bound {
    private static final List<String> NAMED = new ArrayList<>();

    private Bound() { }

    static void of(int promise, String sentence) {
        of(promise, sentence, "");
    }

    /** One of several cases of a sentence. */
    static void of(int promise, String sentence, String which) {
        String name = "Promise " + promise + ", \"" + sentence + "\"" + (which.isEmpty() ? "" : ", " + which);
        Check.part(name);
        Check.due("a test of its own", !NAMED.contains(name), true);
        Check.due("the sentence stands in the document", Document.says(promise, sentence), true);
        NAMED.add(name);
    }

    static void index(String call, Supplier<Tenuredale> heap, Consumer<Tenuredale> made) {
        Tenuredale x = heap.get();
        Check.throwsIndex(call, () -> made.accept(x));
        unchanged(call, x, heap.get());
    }

    static void argument(String call, Supplier<Tenuredale> heap, Consumer<Tenuredale> made) {
        Tenuredale x = heap.get();
        Check.throwsArgument(call, () -> made.accept(x));
        unchanged(call, x, heap.get());
    }

    static void state(String call, Supplier<Tenuredale> heap, Consumer<Tenuredale> made) {
        Tenuredale x = heap.get();
        Check.throwsState(call, () -> made.accept(x));
        unchanged(call, x, heap.get());
    }

    /** A call that is answered, and changes nothing. */
    static void still(String call, Supplier<Tenuredale> heap, ToLongFunction<Tenuredale> made, long want) {
        Tenuredale x = heap.get();
        Check.due(call, made.applyAsLong(x), want);
        unchanged(call, x, heap.get());
    }

    /** A heap is as its twin, that did without the call: the digest, what the asking calls tell, and all the rest. */
    static void unchanged(String call, Tenuredale x, Tenuredale twin) {
        same(call, Answers.told(x), Answers.told(twin));
        same(call, Answers.kept(x), Answers.kept(twin));
    }

    private static void same(String call, List<String> got, List<String> want) {
        String change = "nothing";
        for (int row = 0; row < Math.max(got.size(), want.size()) && change.equals("nothing"); row++) {
            String now = row < got.size() ? got.get(row) : "no row";
            String ahead = row < want.size() ? want.get(row) : "no row";
            if (!now.equals(ahead)) {
                change = ahead + " became " + now;
            }
        }
        Check.due(call + " changed something (" + change + ")", !change.equals("nothing"), false);
    }

    /** Each line of the document that names an exception has a test that names it. */
    static void end(int firstPromise, int lastPromise) {
        Check.part("the lines that name an exception");
        for (int promise = firstPromise; promise <= lastPromise; promise++) {
            for (String line : Document.refusals(promise)) {
                Check.due("promise " + promise + ", a test of: " + line, isNamed(promise, line), true);
            }
        }
        Check.end();
    }

    private static boolean isNamed(int promise, String line) {
        String begin = "Promise " + promise + ", \"";
        for (String name : NAMED) {
            if (name.startsWith(begin)
                    && line.contains(name.substring(begin.length(), name.indexOf('"', begin.length())))) {
                return true;
            }
        }
        return false;
    }
}
