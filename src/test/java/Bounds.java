import java.util.function.Supplier;
import java.util.function.ToLongFunction;

/** Short names of what Due and Stage offer, for the classes of boundary cases. */
abstract class Bounds {
    static final int NONE = Due.NONE, BAD = Due.BAD, NOT = Due.NOT, FULL = Due.FULL;
    static final int NULL = Due.NULL, INDEX = Due.INDEX, CAST = Due.CAST, STORE = Due.STORE, SIZE = Due.SIZE;
    static final int LEAST = Due.LEAST, GREATEST = Due.GREATEST;

    static void sentence(int promise, String quote) {
        Due.sentence(promise, quote);
    }

    static void due(String call, long got, long want) {
        Due.due(call, got, want);
    }

    static void bad(String call, ToLongFunction<FerretCables> act) {
        Due.bad(call, act);
    }

    static void refused(Supplier<FerretCables> made, String call, ToLongFunction<FerretCables> act, long want) {
        Due.refused(made, call, act, want);
    }

    static FerretCables typed(String text) {
        return Stage.typed(text);
    }

    static void typeOn(FerretCables x, String text) {
        Stage.typeOn(x, text);
    }

    static String many(String pipe, int n) {
        return Stage.many(pipe, n);
    }

    static void lets(FerretCables x, int from, int to, int n) {
        Stage.lets(x, from, to, n);
    }
}
