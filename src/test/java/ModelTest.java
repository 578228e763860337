import java.util.Random;

/** Long runs of calls, made by lot from fixed seeds, each answered by the class and by the plain model. */
public final class ModelTest {
    private static final int CALLS = 512;
    private static final int[] ODD = {Integer.MIN_VALUE, -2, -1, 8, 9, 16, 17, 60, 61, 255, 256, 999, 1000,
        65535, 65536, Integer.MAX_VALUE};

    private final Random lots;
    private final FerretCables x = new FerretCables();
    private final PlainModel model = new PlainModel();
    private final StringBuilder told = new StringBuilder();
    private final int letters;
    private int calls = 0;
    private boolean failed = false;

    private ModelTest(long seed) {
        lots = new Random(seed);
        letters = 3 + lots.nextInt(6);
    }

    private int lot(int n) {
        return lots.nextInt(n);
    }

    /** Mostly a number from 0 to n - 1, now and then one that is not told. */
    private int num(int n) {
        return lot(25) == 0 ? ODD[lot(ODD.length)] : lot(n);
    }

    private void same(String call, long got, long want) {
        calls++;
        told.append(call).append(" -> ").append(want).append('\n');
        if (got != want && !failed) {
            failed = true;
            System.out.println(told);
            System.out.println("the last one answered " + got);
        }
    }

    private void typeOne(int b) {
        same("type(" + b + ")", x.type(b), model.type(b));
    }

    private void typePipe() {
        if (model.count(1) > 0) {
            typeOne(';');
        }
        int a = lot(letters);
        int b = lot(40) == 0 ? a : (a + 1 + lot(letters - 1)) % letters;
        typeOne('a' + a);
        typeOne('a' + b);
        typeOne('1' + lot(lot(3) == 0 ? 9 : 3));
        typeOne('0' + lot(10));
    }

    private void mend() {
        if (model.fault() != PlainModel.NONE && calls < CALLS - 90) {
            same("wipe()", x.wipe(), model.wipe());
            int n = 1 + lot(16);
            for (int i = 0; i < n; i++) {
                typePipe();
            }
        }
    }

    /** Up to the very last call of which something is promised. */
    private void useUp() {
        for (int w = 0; calls < CALLS - 1; w++) {
            same("out(" + w % 16 + ")", x.out(w % 16), model.out(w % 16));
        }
        same("digest()", x.digest(), model.digest());
    }

    private void pipesCall() {
        int a = num(17);
        int b = num(6);
        switch (lot(30)) {
            case 0:
                typeOne(num(256));
                break;
            case 1:
                same("wipe()", x.wipe(), model.wipe());
                break;
            case 2:
            case 3:
                same("undo()", x.undo(), model.undo());
                break;
            case 4:
            case 5:
            case 6:
            case 7:
                typePipe();
                break;
            case 8:
            case 9:
                same("fault()", x.fault(), model.fault());
                break;
            case 10:
            case 11: {
                int shut = lot(3) == 0 ? num(65536) : lot(2) == 0 ? 0 : 1 << lot(16);
                same("set(0, " + shut + ")", x.set(0, shut), model.set(0, shut));
                break;
            }
            case 12:
            case 13: {
                int takes = 1 + num(4);
                same("set(1, " + takes + ")", x.set(1, takes), model.set(1, takes));
                break;
            }
            case 14: {
                int hard = num(lot(2) == 0 ? 40 : 1001);
                int what = num(4) | 2;
                same("set(" + what + ", " + hard + ")", x.set(what, hard), model.set(what, hard));
                break;
            }
            default:
                same("pipe(" + a + ", " + b + ")", x.pipe(a, b), model.pipe(a, b));
        }
    }

    private void stepsCall() {
        int from = num(letters);
        int to = num(letters);
        int w = num(16);
        int k = num(model.count(2) + 1);
        switch (lot(14)) {
            case 0:
            case 1:
            case 2:
            case 3:
                same("letIn(" + from + ", " + to + ")", x.letIn(from, to), model.letIn(from, to));
                break;
            case 4:
            case 5: {
                int wire = lot(3) == 0 ? w : num(model.count(2) + 1);
                same("pull(" + wire + ")", x.pull(wire), model.pull(wire));
                break;
            }
            case 6:
            case 7:
                same("back()", x.back(), model.back());
                break;
            case 8: {
                int s = num(4);
                same("read(" + s + ")", x.read(s), model.read(s));
                break;
            }
            case 9:
                same("judged()", x.judged(), model.judged());
                break;
            case 10: {
                int what = num(2);
                same("state(" + k + ", " + what + ")", x.state(k, what), model.state(k, what));
                break;
            }
            case 11:
                same("wire(" + k + ", " + w + ")", x.wire(k, w), model.wire(k, w));
                break;
            default:
                same("out(" + w + ")", x.out(w), model.out(w));
        }
    }

    private void waysCall() {
        int from = num(letters);
        int to = num(letters);
        int i = num(6) - 1;
        int what = num(2);
        int w = num(16);
        switch (lot(8)) {
            case 0:
            case 1:
                same("shortest(" + from + ", " + to + ", " + i + ")", x.shortest(from, to, i),
                        model.shortest(from, to, i));
                break;
            case 2:
            case 3:
                same("most(" + from + ", " + to + ", " + what + ")", x.most(from, to, what),
                        model.most(from, to, what));
                break;
            case 4:
                same("fails(" + w + ")", x.fails(w), model.fails(w));
                break;
            case 5:
                same("soonest()", x.soonest(), model.soonest());
                break;
            case 6: {
                int day = num(lot(2) == 0 ? 20 : 1000);
                same("left(" + day + ")", x.left(day), model.left(day));
                break;
            }
            default: {
                int off = lot(2) == 0 ? 1 << lot(16) : num(65536);
                same("burns(" + off + ")", x.burns(off), model.burns(off));
            }
        }
    }

    private void bellsCall() {
        int from = num(8);
        int a = num(1000);
        int b = lot(2) == 0 ? a + lot(21) - 10 : num(1000);
        int what = num(2);
        switch (lot(5)) {
            case 0: {
                int ends = lot(2) == 0 ? 1 << lot(letters) | 1 << lot(letters) : num(1 << letters);
                int part = num(3);
                same("lit(" + ends + ", " + part + ")", x.lit(ends, part), model.lit(ends, part));
                break;
            }
            case 1: {
                int bells = num(letters < 5 ? 5 : 7);
                int at = num(9) - 1;
                if (letters < 5 && bells > 4) {
                    bells = 7;
                }
                same("heard(" + from + ", " + bells + ", " + at + ")", x.heard(from, bells, at),
                        model.heard(from, bells, at));
                break;
            }
            case 2:
            case 3: {
                int p = num(17);
                same("meet(" + p + ", " + a + ", " + b + ", " + what + ")", x.meet(p, a, b, what),
                        model.meet(p, a, b, what));
                break;
            }
            default: {
                int seed = lots.nextInt();
                int n = num(21);
                same("drowsy(" + seed + ", " + from + ", " + n + ")", x.drowsy(seed, from, n),
                        model.drowsy(seed, from, n));
            }
        }
    }

    private void jottingsCall() {
        int w = num(16);
        int a = num(letters);
        int b = num(letters);
        int k = num(model.count(2) + 1);
        switch (lot(9)) {
            case 0:
                if (w >= 0 && w < 16) {
                    w = lot(model.count(2) + 1) & 15;
                }
                same("chalk(" + w + ", " + a + ", " + b + ")", x.chalk(w, a, b), model.chalk(w, a, b));
                break;
            case 1:
                same("lies()", x.lies(), model.lies());
                break;
            case 2: {
                int ends = lot(2) == 0 ? num(256) : model.burns(1 << lot(16));
                same("scene(" + ends + ")", x.scene(ends), model.scene(ends));
                break;
            }
            case 3:
            case 4:
                same("scenes(" + k + ")", x.scenes(k), model.scenes(k));
                break;
            case 5:
            case 6: {
                int n = num(model.count(6) + 1);
                same("cue(" + n + ")", x.cue(n), model.cue(n));
                break;
            }
            case 7: {
                int what = lot(3) == 0 ? num(3) : 2;
                same("forget(" + what + ")", x.forget(what), model.forget(what));
                break;
            }
            default: {
                int what = num(10);
                same("count(" + what + ")", x.count(what), model.count(what));
            }
        }
    }

    private void sheetsCall() {
        int s = num(4);
        int t = num(4);
        int form = num(lot(2) == 0 ? 1 : 3);
        int i = num(lot(2) == 0 ? 6 : 60);
        int j = num(6);
        int n = num(5);
        switch (lot(9)) {
            case 0: {
                int size = lot(2) == 0 ? num(62) - 1 : num(9);
                same("sheet(" + s + ", " + form + ", " + size + ")", x.sheet(s, form, size),
                        model.sheet(s, form, size));
                break;
            }
            case 1:
                if (lot(4) == 0) {
                    same("lose(" + s + ")", x.lose(s), model.lose(s));
                }
                break;
            case 2:
            case 3: {
                int v = lot(4) == 0 ? lots.nextInt() : lot(letters);
                same("lay(" + s + ", " + form + ", " + i + ", " + v + ")", x.lay(s, form, i, v),
                        model.lay(s, form, i, v));
                break;
            }
            case 4:
            case 5:
                same("get(" + s + ", " + form + ", " + i + ")", x.get(s, form, i), model.get(s, form, i));
                break;
            case 6:
            case 7:
                same("copy(" + s + ", " + i + ", " + t + ", " + j + ", " + n + ")", x.copy(s, i, t, j, n),
                        model.copy(s, i, t, j, n));
                break;
            default:
                same("write(" + i + ", " + j + ", " + s + ")", x.write(i, j, s), model.write(i, j, s));
        }
        same("count(8)", x.count(8), model.count(8));
    }

    private boolean run() {
        int pipes = lot(17);
        for (int i = 0; i < pipes; i++) {
            typePipe();
        }
        // no call of the switch makes more than five
        while (calls < CALLS - 6 && !failed) {
            switch (lot(12)) {
                case 0:
                    pipesCall();
                    break;
                case 1:
                case 2:
                case 3:
                    stepsCall();
                    break;
                case 4:
                case 5:
                    waysCall();
                    break;
                case 6:
                case 7:
                    bellsCall();
                    break;
                case 8:
                case 9:
                    jottingsCall();
                    break;
                default:
                    sheetsCall();
            }
            if (lot(10) == 0) {
                mend();
            }
        }
        if (!failed) {
            useUp();
        }
        return !failed;
    }

    public static void main(String[] args) {
        int runs = args.length > 0 ? Integer.parseInt(args[0]) : 300;
        int wrong = 0;
        for (int seed = 0; seed < runs; seed++) {
            if (!new ModelTest(seed).run()) {
                System.out.println("in the run of seed " + seed);
                wrong++;
                break;
            }
        }
        System.out.println("ModelTest: " + runs + " runs, " + wrong + " wrong");
        if (wrong != 0) {
            System.exit(1);
        }
    }
}
