/** Boundary cases of promises 8 to 15: STEPS, what lies behind them, what must be drawn out. */
final class StepsBounds extends Bounds {
    static void all() {
        endsOfLetIn();
        letInToItself();
        sixteenSteps();
        wireHasItsNumber();
        noWayIsNotDone();
        shortestOfAll();
        leastRow();
        fullAsItTakes();
        liesInAllOfIt();
        wiresOfPull();
        pullWhenFull();
        pullOfWhatDoesNotLie();
        pullUnderALaterOne();
        pullNotUnderAnother();
        pullOfTheLast();
        backOfAny();
        backOfNone();
        backPlaysAnew();
        sheetOfRead();
        readOfLost();
        readWhole();
        readWhileItMay();
        readTillFull();
        readOfForms();
        judgedOfNone();
        judgedOfTheFirstAndLast();
        behindSteps();
        whatOfState();
        bitsOfState();
        behindStepsOfWire();
        wiresOfWire();
        wireThatDoesNotLie();
        wiresOfOut();
        outOfWhatDoesNotLie();
        outItToo();
        outFewest();
    }

    private static void endsOfLetIn() {
        sentence(8, "A LET-IN more: how many STEPS.");
        for (int from = 0; from < 8; from++) {
            FerretCables x = new FerretCables();
            int n = 0;
            for (int to = 0; to < 8; to++) {
                if (from != to) {
                    n++;
                    due("letIn(" + from + ", " + to + ")", x.letIn(from, to), n);
                }
            }
            due("STEPS", x.count(2), 7);
        }
        bad("letIn(-1, 0)", x -> x.letIn(-1, 0));
        bad("letIn(8, 0)", x -> x.letIn(8, 0));
        bad("letIn(0, -1)", x -> x.letIn(0, -1));
        bad("letIn(0, 8)", x -> x.letIn(0, 8));
        bad("letIn(least, 0)", x -> x.letIn(LEAST, 0));
        bad("letIn(greatest, 0)", x -> x.letIn(GREATEST, 0));
        bad("letIn(0, least)", x -> x.letIn(0, LEAST));
        bad("letIn(0, greatest)", x -> x.letIn(0, GREATEST));
    }

    private static void letInToItself() {
        sentence(8, "BAD: also to itself; FULL.");
        for (int end = 0; end < 8; end++) {
            int e = end;
            bad("letIn(" + e + ", " + e + ")", x -> x.letIn(e, e));
            refused(Stage::full, "letIn(" + e + ", " + e + ") of 16", x -> x.letIn(e, e), BAD);
        }
        bad("letIn(-1, -1)", x -> x.letIn(-1, -1));
        bad("letIn(8, 8)", x -> x.letIn(8, 8));
    }

    private static void sixteenSteps() {
        sentence(8, "STEPS, 16 at most (0 on)");
        FerretCables x = typed("ab10");
        for (int n = 1; n <= 16; n++) {
            due("letIn(0, 1)", x.letIn(0, 1), n);
            due("STEPS", x.count(2), n);
        }
        refused(Stage::full, "a seventeenth", y -> y.letIn(0, 1), FULL);
        refused(Stage::full, "a seventeenth without a way", y -> y.letIn(6, 7), FULL);
        refused(Stage::full, "a seventeenth from 8", y -> y.letIn(8, 0), BAD);
        x.back();
        due("room again", x.letIn(1, 0), 16);
    }

    private static void wireHasItsNumber() {
        sentence(8, "draws a wire, which has the number of its STEP");
        FerretCables x = typed(many("ab10", 16));
        x.set(1, 1);
        for (int n = 0; n < 16; n++) {
            x.letIn(n % 2, 1 - n % 2);
            due("the PIPE of wire " + n, x.wire(n + 1, n), 1 << n);
            due("wires", x.state(n + 1, 0), (1 << n + 1) - 1);
        }
        x = typed("ab10");
        x.pull(0);
        x.letIn(0, 2);
        x.letIn(0, 1);
        due("whatever was not done ahead of it", x.state(3, 0), 4);
    }

    private static void noWayIsNotDone() {
        sentence(8, "it is not done, if there is no way");
        FerretCables x = new FerretCables();
        due("without PIPES it is a STEP", x.letIn(0, 1), 1);
        due("which is not done", x.judged(), 0);
        due("done", x.count(3), 0);
        typeOn(x, "cd10");
        due("not done with other PIPES", x.count(3), 0);
        typeOn(x, ";bc10;da10");
        due("done when there is a way", x.count(3), 1);
        due("all PIPES of it", x.wire(1, 0), 7);
        x.set(0, 2);
        due("not done through a SHUT one", x.count(3), 0);
    }

    private static void shortestOfAll() {
        sentence(8, "goes to another one by the way that is shortest of all through PIPES that are neither SHUT nor "
                + "FULL");
        FerretCables x = typed("ac30;ab10;bc10");
        x.letIn(0, 2);
        due("1 and 1, not 3", x.wire(1, 0), 6);
        x = typed("ab90;ab80");
        x.letIn(0, 1);
        due("8, not 9", x.wire(1, 0), 2);
        x = typed("ah90;ab10;bc10;cd10;de10;ef10;fg10;gh10");
        x.letIn(0, 7);
        due("seven PIPES, 7 long, not one, 9 long", x.wire(1, 0), 254);
        x.letIn(7, 0);
        x.letIn(0, 7);
        x.letIn(0, 7);
        due("the fourth", x.wire(4, 3), 254);
        x.letIn(7, 0);
        due("the fifth, these being FULL", x.wire(5, 4), 1);
        x.set(0, 128);
        due("the first, one being SHUT", x.wire(5, 0), 1);
        x = typed("ab90;bc90;cd90;de90;ef90;fg90;gh90");
        x.letIn(7, 0);
        due("the longest of all", x.wire(1, 0), 127);
    }

    private static void leastRow() {
        sentence(8, "of like ones the least row of PIPES");
        rowOf("ab10;ab10", 0, 1, 1);
        rowOf("ac20;ab10;bc10", 0, 2, 1);
        // a row of two PIPES is less than a row of one, if its first PIPE is
        rowOf("ab10;ac20;bc10", 0, 2, 5);
        rowOf("ab10;ac20;bc10", 2, 0, 2);
        // alike at first: the second PIPE tells, not the third
        rowOf("ab10;de10;ce10;bc20;bd20", 0, 4, 13);
        rowOf("ab10;de10;ce10;bc20;bd20", 4, 0, 19);
        // the row as it is gone through, not as numbers go
        rowOf("bd10;cd10;ac10;ab10", 0, 3, 6);
        rowOf("bd10;cd10;ac10;ab10", 3, 0, 9);
    }

    private static void rowOf(String text, int from, int to, int want) {
        FerretCables x = typed(text);
        x.letIn(from, to);
        due(text + " from " + from + " to " + to, x.wire(1, 0), want);
    }

    private static void fullAsItTakes() {
        sentence(13, "FULL (have as many wires as it takes)");
        for (int takes = 1; takes <= 4; takes++) {
            FerretCables x = typed("ab10");
            x.set(1, takes);
            for (int n = 1; n <= 5; n++) {
                x.letIn(0, 1);
                due("FULL with " + n + " of " + takes, x.state(n, 1), n >= takes ? 1 : 0);
                due("wires", x.pipe(0, 4), Math.min(n, takes));
            }
            due("the first that is not done", x.judged(), takes);
        }
    }

    private static void liesInAllOfIt() {
        sentence(14, "So a wire lies in all PIPES of that way.");
        FerretCables x = Stage.row();
        x.letIn(0, 7);
        due("wire(1, 0)", x.wire(1, 0), 127);
        for (int p = 0; p < 7; p++) {
            due("wires in " + p, x.pipe(p, 4), 1);
        }
        x.letIn(3, 4);
        due("a wire of one", x.wire(2, 1), 8);
    }

    private static void wiresOfPull() {
        sentence(9, "A PULL (of a wire 0 to 15) more: how many STEPS. BAD; FULL.");
        FerretCables x = new FerretCables();
        for (int w = 0; w < 16; w++) {
            due("pull(" + w + ")", x.pull(w), w + 1);
        }
        due("STEPS", x.count(2), 16);
        bad("pull(-1)", y -> y.pull(-1));
        bad("pull(16)", y -> y.pull(16));
        bad("pull(32)", y -> y.pull(32));
        bad("pull(least)", y -> y.pull(LEAST));
        bad("pull(greatest)", y -> y.pull(GREATEST));
    }

    private static void pullWhenFull() {
        sentence(9, "STEPS, 16 at most");
        refused(Stage::full, "pull(0), the seventeenth", x -> x.pull(0), FULL);
        refused(Stage::full, "pull(15), the seventeenth", x -> x.pull(15), FULL);
        refused(Stage::full, "pull(16), the seventeenth", x -> x.pull(16), BAD);
        refused(Stage::full, "pull(-1), the seventeenth", x -> x.pull(-1), BAD);
    }

    private static void pullOfWhatDoesNotLie() {
        sentence(9, "A PULL draws a told wire out: it is not done, if that does not lie");
        FerretCables x = typed("ab10");
        x.pull(0);
        due("its own number", x.judged(), 0);
        x.letIn(0, 2);
        x.pull(1);
        due("one that was not done", x.count(3), 0);
        x.letIn(0, 1);
        x.pull(4);
        x.pull(0);
        x.pull(15);
        due("the wire still lies", x.state(7, 0), 8);
        x.pull(3);
        due("it is out", x.state(8, 0), 0);
        x.pull(3);
        due("out already", x.count(3), 2);
        x = typed("ab10");
        x.pull(1);
        x.letIn(0, 1);
        due("one that comes later", x.state(2, 0), 2);
    }

    private static void pullUnderALaterOne() {
        sentence(9, "or if in one of its PIPES a wire lies that was drawn later");
        FerretCables x = typed("ab10;bc10;cd10");
        x.letIn(0, 3);
        x.letIn(2, 3);
        x.pull(0);
        due("one on its last PIPE", x.state(3, 0), 3);
        due("judged()", x.judged(), 2);
        x.pull(1);
        x.pull(0);
        due("behind that one", x.state(5, 0), 0);
        x = typed("ab10;bc10;cd10");
        x.letIn(0, 3);
        x.letIn(1, 0);
        x.pull(0);
        due("one on its first PIPE", x.state(3, 0), 3);
        x = typed("ab10");
        lets(x, 0, 1, 4);
        x.pull(2);
        due("the last of four lies on the third", x.state(5, 0), 15);
        x.pull(3);
        x.pull(2);
        due("in order", x.state(7, 0), 3);
        x.letIn(0, 1);
        x.pull(1);
        due("one that was drawn anew is later", x.state(9, 0), 3 + 128);
    }

    private static void pullNotUnderAnother() {
        sentence(9, "in one of its PIPES a wire lies that was drawn later");
        FerretCables x = typed("ab10;cd10;bc10");
        x.letIn(0, 1);
        x.letIn(2, 3);
        x.pull(0);
        due("a later one in another PIPE", x.state(3, 0), 2);
        x = typed("ab10");
        lets(x, 0, 1, 2);
        x.pull(1);
        due("one that was drawn earlier", x.state(3, 0), 1);
        x = typed("ab10;ab10");
        x.set(1, 1);
        lets(x, 0, 1, 2);
        x.pull(0);
        due("a later one by the same ENDS", x.state(3, 0), 2);
    }

    private static void pullOfTheLast() {
        sentence(9, "STEPS, 16 at most (0 on), one by one: a LET-IN from an END to another one draws a wire");
        FerretCables x = typed(many("ab10", 4));
        lets(x, 0, 1, 15);
        x.pull(14);
        due("wire 14 by STEP 15", x.state(16, 0), 0x3fff);
        x.back();
        x.pull(15);
        due("wire 15 by STEP 15", x.state(16, 0), 0x7fff);
        due("judged()", x.judged(), 15);
    }

    private static void backOfAny() {
        sentence(10, "The last STEP is undone: how many are left.");
        FerretCables x = Stage.full();
        for (int left = 15; left >= 0; left--) {
            due("back()", x.back(), left);
            due("STEPS", x.count(2), left);
            due("wires", x.count(4), left);
            due("a state behind it", x.state(left + 1, 0), BAD);
        }
        due("back() of none", x.back(), NOT);
    }

    private static void backOfNone() {
        sentence(10, "NOT: there is none.");
        refused(FerretCables::new, "back() of a new object", FerretCables::back, NOT);
        refused(() -> typed("ab10"), "back() with PIPES", FerretCables::back, NOT);
        FerretCables x = typed("ab10");
        x.letIn(0, 1);
        x.back();
        due("back()", x.back(), NOT);
        due("the first STEP anew", x.letIn(0, 1), 1);
    }

    private static void backPlaysAnew() {
        sentence(10, "The last STEP is undone");
        FerretCables x = typed("ab10");
        x.letIn(0, 1);
        x.pull(0);
        due("out", x.state(2, 0), 0);
        x.back();
        due("in again", x.state(1, 0), 1);
        x.back();
        x.letIn(0, 5);
        due("another STEP has its number", x.state(1, 0), 0);
        due("and does not burn", x.burns(0), 1);
        due("nor lie in PIPES", x.wire(1, 0), 0);
        x.back();
        x.pull(0);
        due("nor does a PULL", x.state(1, 0), 0);
    }

    private static void sheetOfRead() {
        sentence(11, "LETS-IN by a SHEET");
        FerretCables x = new FerretCables();
        Stage.lay(x, 0, 0, 0, 1);
        Stage.lay(x, 3, 2, 6, 7);
        due("read(0)", x.read(0), 1);
        due("read(3)", x.read(3), 1);
        bad("read(-1)", y -> y.read(-1));
        bad("read(4)", y -> y.read(4));
        bad("read(least)", y -> y.read(LEAST));
        bad("read(greatest)", y -> y.read(GREATEST));
    }

    private static void readOfLost() {
        sentence(11, "how many. BAD; NULL.");
        refused(Stage::rich, "read(3)", x -> x.read(3), NULL);
        refused(Stage::full, "read(0) of 16 STEPS", x -> x.read(0), NULL);
        refused(Stage::full, "read(4) of 16 STEPS", x -> x.read(4), BAD);
    }

    private static void readWhole() {
        sentence(11, "its items, two for each (from, to), as many as are whole");
        for (int n = 0; n <= 7; n++) {
            FerretCables x = typed("ab10");
            x.letIn(1, 0);
            x.sheet(0, 0, n);
            for (int i = 0; i < n; i++) {
                x.lay(0, 0, i, i % 2);
            }
            due("of " + n + " items", x.read(0), n / 2);
            due("STEPS", x.count(2), 1 + n / 2);
        }
        FerretCables odd = typed("ab10");
        Stage.lay(odd, 0, 0, 1, 1, 1, 1, 1, 1);
        Stage.lay(odd, 0, 0, 0, 1, 1);
        due("a from without its to", odd.read(0), 1);
        Stage.lay(odd, 0, 2, 6);
        due("a from alone", odd.read(0), 0);
        FerretCables x = typed("ab11;cd12");
        Stage.lay(x, 1, 1, 0, 1, 3, 2);
        x.read(1);
        due("the first from 0 to 1", x.wire(2, 0), 1);
        due("the second from 3 to 2", x.wire(2, 1), 2);
        x.chalk(1, 2, 3);
        due("its ENDS", x.lies(), 0);
    }

    private static void readWhileItMay() {
        sentence(11, "as long as each may be: how many.");
        int[][] wrong = {{8, 0}, {0, 8}, {-1, 0}, {0, -1}, {0, 0}, {7, 7}, {127, 0}, {0, -128}};
        for (int[] pair : wrong) {
            FerretCables x = typed("ab10");
            Stage.lay(x, 2, 0, pair[0], pair[1], 0, 1);
            due("the first is " + pair[0] + ", " + pair[1], x.read(2), 0);
            due("STEPS", x.count(2), 0);
            Stage.lay(x, 2, 0, 0, 7, 7, 0, pair[0], pair[1], 0, 1);
            due("the third is " + pair[0] + ", " + pair[1], x.read(2), 2);
            due("STEPS", x.count(2), 2);
            due("no FINDING", x.count(8), 0);
        }
        FerretCables x = typed("ab10");
        Stage.lay(x, 0, 2, 4, 5, 0, 1);
        due("one without a way may be", x.read(0), 2);
        due("it is not done", x.judged(), 0);
        Stage.lay(x, 0, 2, 65536, 1, 0, 1);
        due("an int is looked at whole", x.read(0), 0);
    }

    private static void readTillFull() {
        sentence(11, "as long as each may be");
        for (int had = 0; had <= 16; had++) {
            FerretCables x = typed(many("ab10", 4));
            lets(x, 1, 0, had);
            x.sheet(0, 0, 60);
            for (int i = 1; i < 60; i += 2) {
                x.lay(0, 0, i, 1);
            }
            due("of 60 items behind " + had, x.read(0), 16 - had);
            due("STEPS", x.count(2), 16);
            due("wires", x.count(4), 16);
        }
    }

    private static void readOfForms() {
        sentence(11, "LETS-IN by a SHEET: its items");
        for (int form = 0; form < 3; form++) {
            FerretCables x = new FerretCables();
            Stage.lay(x, form, form, 0, 7, 7, 0);
            due("of FORM " + form, x.read(form), 2);
            due("the SHEET stays", x.get(form, form, 1), 7);
        }
    }

    private static void judgedOfNone() {
        sentence(12, "JUDGED: the first STEP that is not done; NONE.");
        FerretCables x = typed(many("ab10", 4));
        due("no STEPS", x.judged(), NONE);
        lets(x, 0, 1, 16);
        due("16, all done", x.judged(), NONE);
        due("done", x.count(3), 16);
    }

    private static void judgedOfTheFirstAndLast() {
        sentence(12, "JUDGED; NONE.");
        FerretCables x = typed(many("ab10", 4));
        lets(x, 0, 1, 15);
        x.letIn(0, 2);
        due("the last", x.judged(), 15);
        x.back();
        x.pull(0);
        due("the last, a PULL", x.judged(), 15);
        x.wipe();
        due("the first", x.judged(), 0);
        typeOn(x, "ab10");
        due("the fifth of one PIPE", x.judged(), 4);
        due("done", x.count(3), 4);
    }

    private static void behindSteps() {
        sentence(13, "Behind k STEPS (0 to all): wires that lie (bits); PIPES that are FULL (bits)");
        FerretCables x = Stage.rich();
        int[] lie = {0, 1, 3, 1, 9, 9};
        int[] full = {0, 0, 40, 0, 32, 32};
        for (int k = 0; k <= 5; k++) {
            due("state(" + k + ", 0)", x.state(k, 0), lie[k]);
            due("state(" + k + ", 1)", x.state(k, 1), full[k]);
        }
        for (int w = 0; w <= 1; w++) {
            int what = w;
            bad("state(-1, " + w + ")", y -> y.state(-1, what));
            bad("state(6, " + w + ")", y -> y.state(6, what));
            bad("state(least, " + w + ")", y -> y.state(LEAST, what));
            bad("state(greatest, " + w + ")", y -> y.state(GREATEST, what));
            refused(Stage::full, "state(17, " + w + ")", y -> y.state(17, what), BAD);
            refused(FerretCables::new, "state(1, " + w + ") of none", y -> y.state(1, what), BAD);
            due("state(0, " + w + ") of none", new FerretCables().state(0, w), 0);
        }
    }

    private static void whatOfState() {
        sentence(13, "Behind k STEPS: wires that lie (what = 0), PIPES that are FULL (1), as bits. BAD.");
        bad("state(2, -1)", x -> x.state(2, -1));
        bad("state(2, 2)", x -> x.state(2, 2));
        bad("state(2, least)", x -> x.state(2, LEAST));
        bad("state(2, greatest)", x -> x.state(2, GREATEST));
        bad("state(0, 2)", x -> x.state(0, 2));
    }

    private static void bitsOfState() {
        sentence(13, "as bits");
        FerretCables x = typed(many("ab10", 16));
        x.set(1, 1);
        lets(x, 0, 1, 16);
        due("all wires", x.state(16, 0), 65535);
        due("all PIPES", x.state(16, 1), 65535);
        due("all but the last wire", x.state(15, 0), 32767);
        due("all but the last PIPE", x.state(15, 1), 32767);
        x.set(1, 2);
        due("PIPES that take two", x.state(16, 1), 255);
        due("with one too few", x.state(15, 1), 127);
        x.set(0, 65535);
        due("SHUT ones have no wires", x.state(16, 1), 0);
    }

    private static void behindStepsOfWire() {
        sentence(14, "PIPES of a wire (0 to 15) behind k STEPS, as bits. BAD.");
        FerretCables x = Stage.rich();
        int[] want = {0, 0, 40, 0, 0, 0};
        for (int k = 0; k <= 5; k++) {
            due("wire(" + k + ", 0)", x.wire(k, 0), k == 0 ? 0 : 41);
            due("wire(" + k + ", 1)", x.wire(k, 1), want[k]);
        }
        bad("wire(-1, 0)", y -> y.wire(-1, 0));
        bad("wire(6, 0)", y -> y.wire(6, 0));
        bad("wire(least, 0)", y -> y.wire(LEAST, 0));
        bad("wire(greatest, 0)", y -> y.wire(GREATEST, 0));
        refused(Stage::full, "wire(17, 0)", y -> y.wire(17, 0), BAD);
        refused(FerretCables::new, "wire(1, 0) of none", y -> y.wire(1, 0), BAD);
    }

    private static void wiresOfWire() {
        sentence(14, "of a wire (0 to 15)");
        FerretCables x = Stage.full();
        due("wire(16, 0)", x.wire(16, 0), 1);
        due("wire(16, 15)", x.wire(16, 15), 8);
        bad("wire(5, -1)", y -> y.wire(5, -1));
        bad("wire(5, 16)", y -> y.wire(5, 16));
        bad("wire(5, 32)", y -> y.wire(5, 32));
        bad("wire(5, least)", y -> y.wire(5, LEAST));
        bad("wire(5, greatest)", y -> y.wire(5, GREATEST));
    }

    private static void wireThatDoesNotLie() {
        sentence(14, "PIPES of a wire, as bits (0: it does not lie).");
        FerretCables x = Stage.rich();
        due("drawn out", x.wire(5, 1), 0);
        due("a PULL", x.wire(5, 2), 0);
        due("without a way", x.wire(5, 4), 0);
        due("no such STEP", x.wire(5, 5), 0);
        due("the last number", x.wire(5, 15), 0);
        due("not drawn as yet", x.wire(3, 3), 0);
        for (int w = 0; w < 16; w++) {
            due("of no STEPS", new FerretCables().wire(0, w), 0);
        }
    }

    private static void wiresOfOut() {
        sentence(15, "OUT, as bits. BAD (0 to 15); NOT: it does not lie.");
        FerretCables x = Stage.full();
        due("out(0)", x.out(0), 15);
        due("out(15)", x.out(15), 1 << 15);
        due("out(12)", x.out(12), 15 << 12);
        bad("out(-1)", y -> y.out(-1));
        bad("out(16)", y -> y.out(16));
        bad("out(32)", y -> y.out(32));
        bad("out(least)", y -> y.out(LEAST));
        bad("out(greatest)", y -> y.out(GREATEST));
    }

    private static void outOfWhatDoesNotLie() {
        sentence(15, "NOT: it does not lie.");
        for (int w : new int[] {1, 2, 4, 5, 15}) {
            refused(Stage::rich, "out(" + w + ")", x -> x.out(w), NOT);
        }
        for (int w = 0; w < 16; w++) {
            int wire = w;
            refused(FerretCables::new, "out(" + w + ") of none", x -> x.out(wire), NOT);
        }
    }

    private static void outItToo() {
        sentence(15, "the fewest wires that are to be drawn out till it is (it, too), as bits");
        FerretCables x = typed("ab10;bc10");
        x.letIn(0, 1);
        due("alone", x.out(0), 1);
        x.letIn(1, 2);
        due("with another beside it", x.out(0), 1);
        x.letIn(0, 1);
        due("with one on it", x.out(0), 5);
        due("that one", x.out(2), 4);
        x.pull(2);
        due("which is out again", x.out(0), 1);
    }

    private static void outFewest() {
        sentence(15, "OUT of a wire that lies: the fewest wires");
        FerretCables x = Stage.row();
        x.letIn(0, 1);
        for (int e = 0; e < 6; e++) {
            x.letIn(e, e + 2);
        }
        due("on and on", x.out(0), 127);
        for (int w = 1; w <= 6; w++) {
            due("only later ones", x.out(w), 127 & ~((1 << w) - 1));
        }
        x.letIn(0, 1);
        due("the latest", x.out(7), 128);
        due("one that the latest does not touch", x.out(2), 124);
        due("one that it does", x.out(1), 254);
    }
}
