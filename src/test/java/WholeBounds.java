import java.math.BigInteger;
import java.util.ArrayList;
import java.util.List;

/** Boundary cases of promises 38 and 39, of refusals as a whole, and of an object's last call. */
final class WholeBounds extends Bounds {
    static void all() {
        whatOfCount();
        countsOfNone();
        countsOfAll();
        countOfDone();
        countOfFault();
        digestOfNew();
        digestOfFull();
        digestOfFault();
        digestWraps();
        digestAsTold();
        digestOfEach();
        behindAllSteps();
        badFirst();
        changeNothing();
        findingsAreNotInDigest();
        lastCall();
        lastCallOfDigests();
    }

    private static void whatOfCount() {
        sentence(38, "8 the number of the latest FINDING (0 before any). BAD.");
        int[] want = {6, 29, 5, 4, 2, 3, 3, 18, 4};
        FerretCables x = Stage.rich();
        for (int what = 0; what <= 8; what++) {
            due("count(" + what + ")", x.count(what), want[what]);
        }
        bad("count(-1)", y -> y.count(-1));
        bad("count(9)", y -> y.count(9));
        bad("count(least)", y -> y.count(LEAST));
        bad("count(greatest)", y -> y.count(GREATEST));
    }

    private static void countsOfNone() {
        sentence(38, "0 PIPES, 1 bytes, 2 STEPS");
        FerretCables x = new FerretCables();
        for (int what = 0; what <= 8; what++) {
            due("count(" + what + ")", x.count(what), 0);
        }
    }

    private static void countsOfAll() {
        sentence(38, "3 those that are done, 4 wires that lie, 5 marks, 6 SCENES, 7 how long all PIPES are together");
        int[] want = {16, 79, 16, 16, 16, 8, 6, 16, 0};
        FerretCables x = Stage.full();
        for (int what = 0; what <= 8; what++) {
            due("count(" + what + ")", x.count(what), want[what]);
        }
        due("the longest", typed(many("gh99", 16)).count(7), 144);
    }

    private static void countOfDone() {
        sentence(38, "2 STEPS, 3 those that are done, 4 wires that lie");
        FerretCables x = typed("ab10");
        for (int n = 1; n <= 8; n++) {
            x.letIn(0, 1);
            due("done", x.count(3), 2 * n - 1);
            due("wires", x.count(4), 1);
            x.pull(2 * n - 2);
            due("done", x.count(3), 2 * n);
            due("wires", x.count(4), 0);
        }
        x.wipe();
        due("none is done", x.count(3), 0);
        due("STEPS", x.count(2), 16);
    }

    private static void countOfFault() {
        sentence(38, "1 bytes");
        FerretCables x = typed("ab10;x");
        due("PIPES", x.count(0), 0);
        due("bytes", x.count(1), 6);
        due("how long together", x.count(7), 0);
    }

    private static long told(FerretCables x) {
        List<Long> each = new ArrayList<>();
        int all = x.count(2);
        for (int what = 0; what <= 7; what++) {
            each.add((long) x.count(what));
        }
        each.add((long) x.fault());
        each.add((long) x.judged());
        for (int p = 0; p < x.count(0); p++) {
            for (int what = 0; what <= 4; what++) {
                each.add((long) x.pipe(p, what));
            }
        }
        for (int w = 0; w <= 15; w++) {
            each.add((long) x.wire(all, w));
            each.add((long) x.out(w));
            each.add((long) x.fails(w));
        }
        each.add((long) x.state(all, 0));
        each.add((long) x.state(all, 1));
        each.add((long) x.soonest());
        each.add((long) x.left(9));
        each.add((long) x.burns(0));
        each.add((long) x.burns(5));
        for (int e = 1; e <= 7; e++) {
            each.add((long) x.shortest(0, e, NONE));
            each.add((long) x.most(0, e, 0));
            each.add((long) x.most(0, e, 1));
            each.add((long) x.heard(0, 3, e));
        }
        for (int what = 0; what <= 2; what++) {
            each.add((long) x.lit(14, what));
        }
        each.add((long) x.heard(0, 4, NONE));
        each.add((long) x.drowsy(7, 0, 9));
        each.add((long) x.lies());
        each.add((long) x.scenes(all));
        each.add((long) x.cue(0));
        long h = 17;
        for (long one : each) {
            h = 31 * h + one;
        }
        return h;
    }

    private static void digestOfNew() {
        sentence(39, "h is 17; h becomes 31 h and each of");
        due("digest()", new FerretCables().digest(), told(new FerretCables()));
        long h = 17;
        for (int answer : answersOfNew()) {
            h = 31 * h + answer;
        }
        due("digest() by hand", new FerretCables().digest(), h);
    }

    /** By hand: what a new object answers, in the order of digest(). */
    private static List<Integer> answersOfNew() {
        List<Integer> each = new ArrayList<>(List.of(0, 0, 0, 0, 0, 0, 0, 0, NONE, NONE));
        for (int w = 0; w < 16; w++) {
            each.addAll(List.of(0, NOT, NONE));
        }
        each.addAll(List.of(0, 0, NONE, 0, 1, 1));
        for (int e = 1; e <= 7; e++) {
            each.addAll(List.of(NONE, 0, 0, 0));
        }
        each.addAll(List.of(NONE, NONE, NONE, 0, 0, 0, 0, BAD));
        return each;
    }

    private static void digestOfFull() {
        sentence(39, "of wires 0 to 15 wire(all, it), out(it) (as it is told), fails(it)");
        due("digest()", Stage.full().digest(), told(Stage.full()));
        FerretCables x = Stage.full();
        x.back();
        due("without the last wire", x.digest() == Stage.full().digest() ? 1 : 0, 0);
    }

    private static void digestOfFault() {
        sentence(39, "of PIPES pipe() 0 to 4");
        due("with PIPES", Stage.rich().digest(), told(Stage.rich()));
        FerretCables x = Stage.rich();
        x.type(';');
        FerretCables y = Stage.rich();
        y.type(';');
        due("with a FAULT there are none", x.digest(), told(y));
    }

    private static void digestWraps() {
        sentence(39, "as longs that wrap");
        BigInteger h = BigInteger.valueOf(17);
        for (int answer : answersOfNew()) {
            h = h.multiply(BigInteger.valueOf(31)).add(BigInteger.valueOf(answer));
        }
        due("it needs more bits than a long has", h.bitLength() > 64 ? 1 : 0, 1);
        due("its lowest 64 bits", new FerretCables().digest(), h.longValue());
    }

    private static void digestAsTold() {
        sentence(39, "cue(0) (as it is told)");
        FerretCables x = Stage.rich();
        x.forget(1);
        FerretCables y = Stage.rich();
        y.forget(1);
        due("without SCENES cue(0) is BAD", x.digest(), told(y));
        due("which is seen", x.digest() == Stage.rich().digest() ? 1 : 0, 0);
        // day 9, and wires 0 and 2 off: both tell
        x = typed("ab15;ac15;ad11");
        y = typed("ab15;ac15;ad11");
        for (FerretCables z : new FerretCables[] {x, y}) {
            z.set(2, 45);
            z.letIn(0, 1);
            z.letIn(0, 3);
            z.letIn(0, 2);
            z.scene(14);
        }
        due("digest() with wires that fail on day 9", x.digest(), told(y));
    }

    /** Each state tells one of the answers apart from what a near call would answer. */
    private static void digestOfEach() {
        sentence(39, "fault(), judged()");
        digestOf("a FAULT at 3", typed("ab1"), typed("ab1"));
        FerretCables x = typed("ab10");
        x.pull(0);
        FerretCables y = typed("ab10");
        y.pull(0);
        digestOf("a STEP that is not done", x, y);
        sentence(39, "state(all, 0 and 1), soonest(), left(9), burns(0), burns(5), of ENDS 1 to 7 shortest(0, it, NONE), "
                + "most(0, it, 0 and 1), heard(0, 3, it); lit(14, 0 to 2), heard(0, 4, NONE), drowsy(7, 0, 9), lies(), "
                + "scenes(all)");
        digestOf("a row of ENDS", Stage.row(), Stage.row());
        String apart = "ab10;bc10;cd10;ac30;bd30;ah10;hg10;gf10;fe10";
        digestOf("DRAWN less than MOST", typed(apart), typed(apart));
        for (int hard = 8; hard <= 11; hard++) {
            FerretCables one = typed("ab11");
            one.set(2, hard);
            one.letIn(0, 1);
            FerretCables two = typed("ab11");
            two.set(2, hard);
            two.letIn(0, 1);
            digestOf("a wire that fails on day " + hard, one, two);
        }
        digestOf("all of everything", Stage.full(), Stage.full());
    }

    private static void digestOf(String what, FerretCables x, FerretCables twin) {
        due("digest() of " + what, x.digest(), told(twin));
    }

    private static void badFirst() {
        sentence(38, "Refusals, the first that fits, in the order told at each act: BAD -2 (a number not as told, no such "
                + "thing), NULL, NOT -3 (as told), FULL -4, other FINDINGS.");
        refused(Stage::full, "BAD ahead of FULL", x -> x.type(-1), BAD);
        refused(Stage::full, "BAD ahead of FULL", x -> x.letIn(0, 0), BAD);
        refused(Stage::full, "BAD ahead of FULL", x -> x.pull(16), BAD);
        refused(Stage::full, "BAD ahead of FULL", x -> x.chalk(16, 0, 1), BAD);
        refused(Stage::full, "BAD ahead of FULL", x -> x.scene(256), BAD);
        refused(Stage::rich, "BAD ahead of NOT", x -> x.out(16), BAD);
        refused(Stage::rich, "BAD ahead of NULL", x -> x.write(0, 0, 3), BAD);
        refused(Stage::rich, "BAD ahead of NULL", x -> x.lay(3, 3, 0, 0), BAD);
        refused(Stage::rich, "BAD ahead of SIZE", x -> x.sheet(0, 3, -1), BAD);
        refused(Stage::rich, "BAD ahead of NONE", x -> x.shortest(0, 7, -2), BAD);
        refused(Stage::full, "NULL, though STEPS are full", x -> x.read(0), NULL);
        refused(Stage::rich, "NULL ahead of CAST and INDEX", x -> x.lay(3, 2, 99, 0), NULL);
        refused(Stage::rich, "NULL ahead of STORE and INDEX", x -> x.copy(0, 99, 3, 99, 99), NULL);
        refused(Stage::rich, "CAST ahead of INDEX", x -> x.lay(0, 2, 99, 0), CAST);
        refused(Stage::rich, "STORE ahead of INDEX", x -> x.copy(0, 99, 2, 99, 99), STORE);
    }

    private static void changeNothing() {
        sentence(38, "They change nothing (FINDINGS but count() 8).");
        FerretCables x = Stage.full();
        x.type('a');
        x.letIn(0, 1);
        x.pull(0);
        x.chalk(0, 0, 1);
        x.scene(0);
        x.read(0);
        x.lose(1);
        x.sheet(2, 0, -1);
        x.sheet(2, 0, 61);
        x.set(1, 0);
        x.forget(2);
        due("the latest FINDING", x.count(8), 5);
        Due.alike("behind ten refusals", x, Stage.full());
    }

    private static void findingsAreNotInDigest() {
        sentence(39, "each of: count() 0 to 7");
        FerretCables x = Stage.rich();
        long before = x.digest();
        x.sheet(0, 0, -1);
        due("count(8)", x.count(8), 5);
        due("digest()", x.digest(), before);
        x.sheet(0, 2, 60);
        due("nor are SHEETS", x.digest(), before);
    }

    private static void behindAllSteps() {
        sentence(15, "All that follows is behind all STEPS.");
        FerretCables x = typed("ab11;bc10");
        x.set(1, 1);
        x.chalk(0, 0, 1);
        int[] without = {NOT, 1, 1, 1, NONE, NONE, 0, 1, 1, 1};
        int[] with = {1, NONE, 0, 0, 100, 0, 1, 3, 0, 0};
        answersOf("behind none", x, without);
        x.letIn(0, 1);
        answersOf("behind one", x, with);
        x.pull(0);
        answersOf("behind two", x, without);
        x.back();
        answersOf("behind one again", x, with);
    }

    private static void answersOf(String when, FerretCables x, int[] want) {
        int[] got = {x.out(0), x.shortest(0, 1, NONE), x.most(0, 1, 0), x.most(0, 1, 1), x.fails(0), x.soonest(),
            x.left(9), x.burns(0), x.lit(2, 0), x.lies()};
        for (int i = 0; i < want.length; i++) {
            due("answer " + i + " " + when, got[i], want[i]);
        }
    }

    private static void lastCall() {
        sentence(8, "An object is used for at most 512 calls after it has been made");
        FerretCables x = new FerretCables();
        Stage.typeOn(x, "ab10");
        for (int i = 0; i < 253; i++) {
            due("letIn(0, 1)", x.letIn(0, 1), 1);
            due("back()", x.back(), 0);
        }
        // 510 calls are made
        due("the 511th", x.letIn(1, 0), 1);
        due("the 512th", x.state(1, 0), 1);
    }

    private static void lastCallOfDigests() {
        sentence(39, "An object is used for at most 512 calls");
        FerretCables x = Stage.full();
        long want = told(Stage.full());
        for (int i = 0; i < 512 - 109; i++) {
            due("digest()", x.digest(), want);
        }
    }
}
