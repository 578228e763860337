import java.util.ArrayList;
import java.util.List;
import java.util.TreeMap;
import java.util.function.Supplier;
import java.util.function.ToLongFunction;

/**
 * What the tests of boundary cases share: the sentence of the document that is at hand, answers that are due,
 * and refusals, which must change nothing.
 */
final class Due {
    static final int NONE = -1, BAD = -2, NOT = -3, FULL = -4;
    static final int NULL = -11, INDEX = -12, CAST = -13, STORE = -14, SIZE = -15;
    static final int LEAST = Integer.MIN_VALUE, GREATEST = Integer.MAX_VALUE;

    /** How many tests name a promise. */
    static final TreeMap<Integer, Integer> TESTS = new TreeMap<>();
    static final List<String> QUOTES = new ArrayList<>();

    static int answers = 0;
    static int failed = 0;
    private static int promise = 0;
    private static String words = "";

    private Due() { }

    /** A test begins: of a promise, by words that stand in the document. */
    static void sentence(int number, String quote) {
        promise = number;
        words = quote;
        TESTS.merge(number, 1, Integer::sum);
        QUOTES.add(quote);
    }

    static void due(String call, long got, long want) {
        answers++;
        if (got != want) {
            wrong(call + " answered " + got + ", due is " + want);
        }
    }

    static void wrong(String what) {
        failed++;
        System.out.println("promise " + promise + " (" + words + "): " + what);
    }

    static void bad(String call, ToLongFunction<FerretCables> act) {
        refused(Stage::rich, call, act, BAD);
    }

    /** A refusal by its answer; one that is a FINDING is told by count() 8, too. */
    static void refused(Supplier<FerretCables> made, String call, ToLongFunction<FerretCables> act, long want) {
        boolean finding = want <= NULL && want >= SIZE;
        refused(made, call, act, want, finding ? (int) (-10 - want) : 0);
    }

    /** Two objects are made alike; one has the refused call ahead, and must look like the other one. */
    static void refused(Supplier<FerretCables> made, String call, ToLongFunction<FerretCables> act, long want,
            int finding) {
        FerretCables asked = made.get();
        FerretCables twin = made.get();
        due(call, act.applyAsLong(asked), want);
        int before = twin.count(8);
        due("count(8) behind " + call, asked.count(8), finding == 0 ? before : finding);
        alike("behind " + call, asked, twin);
    }

    /** Uses both up: what they hold is seen in part by calls that change it. */
    static void alike(String when, FerretCables one, FerretCables two) {
        List<String> first = Stage.seen(one);
        List<String> second = Stage.seen(two);
        answers++;
        for (int i = 0; i < Math.min(first.size(), second.size()); i++) {
            if (!first.get(i).equals(second.get(i))) {
                wrong(when + ": " + first.get(i) + ", due is " + second.get(i));
                return;
            }
        }
        if (first.size() != second.size()) {
            wrong(when + ": " + first.size() + " answers, due are " + second.size());
        }
    }
}
