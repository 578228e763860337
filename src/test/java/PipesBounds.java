/** Boundary cases of promises 1 to 7: the text, its FAULT, PIPES, what is set. */
final class PipesBounds extends Bounds {
    /** Fifteen PIPES and the ; behind them. */
    private static final String FIFTEEN = Stage.many("ab10", 15) + ";";

    static void all() {
        constants();
        newHasNothing();
        newHasNoFinding();
        shutAtFirst();
        takesAtFirst();
        hardAtFirst();
        sheetsAtFirst();
        byteOfType();
        everyByteIsTaken();
        textIsFull();
        textWithFaultIsFull();
        comesBehind();
        wipeOfAny();
        wipeLeavesTheRest();
        undoOfAny();
        undoTakesItsSign();
        undoPlaysAnew();
        undoOfNone();
        emptyIsWell();
        notEndedIsAtItsEnd();
        letters();
        lengths();
        damps();
        signBetween();
        lettersAlike();
        firstFault();
        seventeenth();
        faultHasNoPipes();
        faultIsMendedByWipe();
        pipesFromNought();
        whatOfPipe();
        everyEnd();
        leastAndGreatestOfPipe();
        wiresOfPipe();
        severalPipes();
        whatOfSet();
        shutBounds();
        takesBounds();
        hardBounds();
        shutBits();
        shutOfPipesNotThere();
    }

    private static void constants() {
        sentence(1, "public static final int NONE = -1, BAD = -2, NOT = -3, FULL = -4;");
        due("NONE", FerretCables.NONE, -1);
        due("BAD", FerretCables.BAD, -2);
        due("NOT", FerretCables.NOT, -3);
        due("FULL", FerretCables.FULL, -4);
    }

    private static void newHasNothing() {
        sentence(1, "No PIPES; all SHEETS are LOST.");
        FerretCables x = new FerretCables();
        for (int what = 0; what <= 7; what++) {
            due("count(" + what + ")", x.count(what), 0);
        }
        due("pipe(0, 0)", x.pipe(0, 0), BAD);
        for (int s = 0; s < 4; s++) {
            due("lose(" + s + ")", x.lose(s), NULL);
        }
        due("sheet(0, 0, 1)", x.sheet(0, 0, 1), 1);
        due("a second object has SHEETS of its own", new FerretCables().lose(0), NULL);
    }

    private static void newHasNoFinding() {
        sentence(38, "8 the number of the latest FINDING (0 before any)");
        due("count(8)", new FerretCables().count(8), 0);
        FerretCables x = new FerretCables();
        x.lose(4);
        x.type(256);
        x.undo();
        due("count(8) behind BAD and NOT", x.count(8), 0);
    }

    private static void shutAtFirst() {
        sentence(7, "SHUT PIPES (bits; none at first) nobody goes through.");
        due("set(0, 65535)", new FerretCables().set(0, 65535), 0);
        FerretCables x = typed(many("ab10", 16));
        due("MOST at first", x.most(0, 1, 1), 64);
        x.set(0, 65535);
        due("MOST, all SHUT", x.most(0, 1, 1), 0);
        due("DRAWN, all SHUT", x.most(0, 1, 0), 0);
        due("shortest, all SHUT", x.shortest(0, 1, NONE), NONE);
        due("heard, all SHUT", x.heard(0, 1, NONE), 0);
        due("drowsy, all SHUT", x.drowsy(1, 0, 1), 0);
        x.letIn(0, 1);
        due("a LET-IN, all SHUT", x.judged(), 0);
    }

    private static void takesAtFirst() {
        sentence(7, "TAKES (1 to 4; 4 at first): so many wires a PIPE takes.");
        due("set(1, 1)", new FerretCables().set(1, 1), 4);
        FerretCables x = typed("ab10");
        lets(x, 0, 1, 5);
        due("done", x.count(3), 4);
        due("judged()", x.judged(), 4);
    }

    private static void hardAtFirst() {
        sentence(7, "is HARD (1 to 999; 100 at first) or more");
        due("set(2, 1)", new FerretCables().set(2, 1), 100);
        FerretCables x = typed("ab11");
        x.letIn(0, 1);
        due("fails(0)", x.fails(0), 100);
    }

    private static void sheetsAtFirst() {
        sentence(1, "SHEETS 0 .. 3 are LOST (at first)");
        for (int s = 0; s < 4; s++) {
            int sheet = s;
            refused(FerretCables::new, "read(" + s + ")", x -> x.read(sheet), NULL);
            refused(FerretCables::new, "write(0, 1, " + s + ")", x -> x.write(0, 1, sheet), NULL);
            refused(FerretCables::new, "lay(" + s + ", 0, 0, 0)", x -> x.lay(sheet, 0, 0, 0), NULL);
        }
    }

    private static void byteOfType() {
        sentence(2, "A byte (0 to 255) comes behind PIPES: how many. BAD; FULL.");
        due("type(0)", new FerretCables().type(0), 1);
        due("type(255)", new FerretCables().type(255), 1);
        bad("type(-1)", x -> x.type(-1));
        bad("type(256)", x -> x.type(256));
        bad("type(-159)", x -> x.type('a' - 256));
        bad("type(353)", x -> x.type('a' + 256));
        bad("type(least)", x -> x.type(LEAST));
        bad("type(greatest)", x -> x.type(GREATEST));
        refused(FerretCables::new, "type(-1) of an empty text", x -> x.type(-1), BAD);
        refused(FerretCables::new, "type(256) of an empty text", x -> x.type(256), BAD);
    }

    private static void everyByteIsTaken() {
        sentence(2, "A byte (0 to 255) comes behind PIPES: how many.");
        FerretCables x = new FerretCables();
        for (int b = 0; b <= 255; b++) {
            if (b % 79 == 0) {
                x = new FerretCables();
            }
            due("type(" + b + ")", x.type(b), b % 79 + 1);
        }
    }

    private static void textIsFull() {
        sentence(2, "PIPES are a text of up to 79 bytes (text 0)");
        FerretCables x = typed(many("ab10", 16).substring(0, 78));
        due("count(1)", x.count(1), 78);
        due("the 79th byte", x.type('0'), 79);
        due("count(1)", x.count(1), 79);
        refused(Stage::full, "the 80th byte, ;", y -> y.type(';'), FULL);
        refused(Stage::full, "the 80th byte, 0", y -> y.type(0), FULL);
        refused(Stage::full, "the 80th byte, 255", y -> y.type(255), FULL);
        refused(Stage::full, "the 80th byte, -1", y -> y.type(-1), BAD);
        refused(Stage::full, "the 80th byte, 256", y -> y.type(256), BAD);
    }

    private static void textWithFaultIsFull() {
        sentence(2, "PIPES are a text of up to 79 bytes");
        FerretCables x = typed("x" + many("ab10", 16).substring(1));
        due("count(1)", x.count(1), 79);
        due("the 80th byte", x.type('a'), FULL);
        due("count(1)", x.count(1), 79);
        due("fault()", x.fault(), 0);
    }

    private static void comesBehind() {
        sentence(2, "comes behind PIPES");
        FerretCables x = typed("ab10;bc10");
        x.undo();
        due("type behind undo", x.type(';'), 5);
        typeOn(x, "cd35");
        due("the new one", x.pipe(1, 0), 2);
        due("its DAMP", x.pipe(1, 3), 5);
        due("the one ahead of it", x.pipe(0, 0), 0);
        x = Stage.full();
        x.undo();
        due("room again", x.type(';'), 75);
    }

    private static void wipeOfAny() {
        sentence(3, "PIPES are empty: how many bytes they had.");
        FerretCables x = new FerretCables();
        due("of none", x.wipe(), 0);
        due("of none, again", x.wipe(), 0);
        x.type(0);
        due("of one", x.wipe(), 1);
        due("count(1)", x.count(1), 0);
        due("fault()", x.fault(), NONE);
        typeOn(x, many("ab10", 16));
        due("of 79", x.wipe(), 79);
        due("count(0)", x.count(0), 0);
        due("pipe(0, 0)", x.pipe(0, 0), BAD);
        typeOn(x, many("cd10", 16));
        due("79 anew", x.count(0), 16);
        due("the new ones", x.pipe(15, 0), 2);
    }

    private static void wipeLeavesTheRest() {
        sentence(3, "PIPES are empty");
        FerretCables x = Stage.rich();
        due("wipe()", x.wipe(), 29);
        int[] want = {0, 0, 5, 0, 0, 3, 3, 0, 4};
        for (int what = 0; what <= 8; what++) {
            due("count(" + what + ")", x.count(what), want[what]);
        }
        due("SHUT", x.set(0, 0), 2);
        due("TAKES", x.set(1, 4), 2);
        due("HARD", x.set(2, 100), 50);
        due("a SHEET", x.get(2, 2, 0), 70000);
    }

    private static void undoOfAny() {
        sentence(4, "The last PIPE is undone, with the ; ahead of it: how many are left.");
        FerretCables x = typed(many("ab10", 15) + ";cd25");
        for (int left = 15; left >= 0; left--) {
            due("undo()", x.undo(), left);
            due("PIPES", x.count(0), left);
            due("bytes", x.count(1), left == 0 ? 0 : 5 * left - 1);
            due("fault()", x.fault(), NONE);
            due("the PIPE behind the last", x.pipe(left, 0), BAD);
        }
        due("undo() of none", x.undo(), NOT);
    }

    private static void undoTakesItsSign() {
        sentence(4, "with the ; ahead of it");
        FerretCables x = typed("ab12");
        due("the only one has none", x.undo(), 0);
        due("bytes", x.count(1), 0);
        typeOn(x, "cd34;ef56");
        due("the last of two", x.undo(), 1);
        due("bytes", x.count(1), 4);
        due("what is left", x.pipe(0, 3), 4);
    }

    private static void undoPlaysAnew() {
        sentence(4, "The last PIPE is undone");
        FerretCables x = typed("ab20;ab10");
        x.letIn(0, 1);
        due("in the last", x.wire(1, 0), 2);
        x.undo();
        due("in the one that is left", x.wire(1, 0), 1);
        x.undo();
        due("in none", x.wire(1, 0), 0);
        due("not done", x.judged(), 0);
    }

    private static void undoOfNone() {
        sentence(4, "NOT: there are none.");
        refused(FerretCables::new, "undo() of an empty text", FerretCables::undo, NOT);
        refused(() -> typed("ab10;"), "undo() behind ;", FerretCables::undo, NOT);
        refused(() -> typed("ab10;cd1"), "undo() of one that is not ended", FerretCables::undo, NOT);
        refused(() -> typed("x"), "undo() of a wrong byte", FerretCables::undo, NOT);
        FerretCables x = typed("ab10;");
        x.undo();
        typeOn(x, "cd10");
        due("the text went on", x.count(0), 2);
    }

    private static void faultOf(String text, int want) {
        due("fault() of " + text, typed(text).fault(), want);
    }

    private static void emptyIsWell() {
        sentence(5, "(an empty text is well;");
        faultOf("", NONE);
        sentence(5, "The FAULT; NONE.");
        FerretCables x = typed("a");
        due("fault()", x.fault(), 1);
        x.wipe();
        due("fault() behind wipe()", x.fault(), NONE);
    }

    private static void notEndedIsAtItsEnd() {
        sentence(5, "of one that is not ended, its end)");
        String text = "ab19;cd20;ef31;gh42;ha53;ba64;dc75;fe86;hg97;ac18;bd29;ce30;df41;eg52;fh63;ag74";
        for (int n = 1; n <= 79; n++) {
            faultOf(text.substring(0, n), n % 5 == 4 ? NONE : n);
        }
    }

    private static void letters() {
        sentence(5, "two letters a to h");
        for (String ahead : new String[] {"", FIFTEEN}) {
            int at = ahead.length();
            for (int b = 0; b <= 255; b++) {
                boolean letter = b >= 'a' && b <= 'h';
                faultOf(ahead + (char) b, letter ? at + 1 : at);
                faultOf(ahead + "d" + (char) b, letter && b != 'd' ? at + 2 : at + 1);
            }
        }
    }

    private static void lengths() {
        sentence(5, "how long it is (1 to 9)");
        for (String ahead : new String[] {"", FIFTEEN}) {
            int at = ahead.length() + 2;
            for (int b = 0; b <= 255; b++) {
                faultOf(ahead + "dc" + (char) b, b >= '1' && b <= '9' ? at + 1 : at);
            }
        }
    }

    private static void damps() {
        sentence(5, "how DAMP (0 to 9).");
        for (String ahead : new String[] {"", FIFTEEN}) {
            int at = ahead.length() + 3;
            for (int b = 0; b <= 255; b++) {
                faultOf(ahead + "dc5" + (char) b, b >= '0' && b <= '9' ? NONE : at);
            }
        }
    }

    private static void signBetween() {
        sentence(5, "with ; between them");
        for (int b = 0; b <= 255; b++) {
            faultOf("ab10" + (char) b, b == ';' ? 5 : 4);
            faultOf("ab10" + (char) b + "cd10", b == ';' ? NONE : 4);
        }
        faultOf(";", 0);
        faultOf(";ab10", 0);
        faultOf("ab10;;cd10", 5);
        faultOf("ab10;cd10;", 10);
        faultOf("ab10cd10", 4);
        faultOf("a;b10", 1);
        faultOf("ab;10", 2);
        faultOf("ab1;0", 3);
    }

    private static void lettersAlike() {
        sentence(5, "here also of the second letter, if it is like the first");
        for (char one = 'a'; one <= 'h'; one++) {
            for (char two = 'a'; two <= 'h'; two++) {
                faultOf("" + one + two + "11", one == two ? 1 : NONE);
                faultOf(FIFTEEN + one + two + "11", one == two ? 76 : NONE);
            }
        }
        faultOf("ab10;ba10", NONE);
    }

    private static void firstFault() {
        sentence(5, "The FAULT is the place of the first byte with which it cannot go on");
        faultOf("xx00", 0);
        faultOf("aa0x", 1);
        faultOf("ab0x", 2);
        faultOf("ab1xx", 3);
        faultOf("ab1x;ab1x", 3);
        faultOf("ab10x;", 4);
        faultOf("ab10;cc00", 6);
        FerretCables x = typed("ab0");
        due("fault()", x.fault(), 2);
        typeOn(x, "5;ab15");
        due("it stays, whatever comes behind", x.fault(), 2);
    }

    private static void seventeenth() {
        sentence(5, "or of the first byte of a seventeenth.");
        FerretCables x = typed(many("ab10", 16));
        due("fault() of sixteen", x.fault(), NONE);
        due("a seventeenth has no room", x.type(';'), FULL);
        due("nor has its first byte", x.type('a'), FULL);
        due("fault() as before", x.fault(), NONE);
        due("sixteen", x.count(0), 16);
    }

    private static void faultHasNoPipes() {
        sentence(5, "With a FAULT there are none.");
        FerretCables x = typed(many("ab19", 15));
        lets(x, 0, 1, 2);
        due("fifteen", x.count(0), 15);
        x.type(';');
        due("fault()", x.fault(), 75);
        due("count(0)", x.count(0), 0);
        due("pipe(0, 0)", x.pipe(0, 0), BAD);
        due("meet(0, 0, 0, 0)", x.meet(0, 0, 0, 0), BAD);
        due("count(7)", x.count(7), 0);
        due("wires", x.state(2, 0), 0);
        due("FULL ones", x.state(2, 1), 0);
        due("judged()", x.judged(), 0);
        due("shortest", x.shortest(0, 1, NONE), NONE);
        due("DRAWN", x.most(0, 1, 0), 0);
        due("MOST", x.most(0, 1, 1), 0);
        due("lit(2, 0)", x.lit(2, 0), NONE);
        due("heard(0, 1, NONE)", x.heard(0, 1, NONE), 0);
        due("drowsy(1, 0, 1)", x.drowsy(1, 0, 1), 0);
        typeOn(x, "cd10");
        due("sixteen", x.count(0), 16);
        due("the wires again", x.state(2, 0), 3);
    }

    private static void faultIsMendedByWipe() {
        sentence(3, "PIPES are empty");
        FerretCables x = typed("ab10;x");
        due("fault()", x.fault(), 5);
        due("wipe()", x.wipe(), 6);
        due("fault() of none", x.fault(), NONE);
        typeOn(x, "ab10;ab10");
        due("fault() anew", x.fault(), NONE);
        due("PIPES anew", x.count(0), 2);
    }

    private static void pipesFromNought() {
        sentence(6, "16 at most (0 on)");
        FerretCables x = typed(many("ab10", 15) + ";gh98");
        due("pipe(0, 0)", x.pipe(0, 0), 0);
        due("pipe(15, 0)", x.pipe(15, 0), 6);
        refused(Stage::full, "pipe(16, 0)", y -> y.pipe(16, 0), BAD);
        refused(Stage::full, "pipe(-1, 0)", y -> y.pipe(-1, 0), BAD);
        bad("pipe(6, 0)", y -> y.pipe(6, 0));
        bad("pipe(15, 0)", y -> y.pipe(15, 0));
        bad("pipe(least, 0)", y -> y.pipe(LEAST, 0));
        bad("pipe(greatest, 0)", y -> y.pipe(GREATEST, 0));
        due("the last of six", Stage.rich().pipe(5, 0), 1);
        refused(FerretCables::new, "pipe(0, 0) of none", y -> y.pipe(0, 0), BAD);
    }

    private static void whatOfPipe() {
        sentence(6, "Both ENDS (what = 0, 1), how long (2), how DAMP (3), how many wires it has behind all STEPS (4) "
                + "of a PIPE. BAD.");
        int[] want = {1, 2, 1, 4, 2};
        FerretCables x = Stage.rich();
        for (int what = 0; what <= 4; what++) {
            due("pipe(5, " + what + ")", x.pipe(5, what), want[what]);
        }
        bad("pipe(5, -1)", y -> y.pipe(5, -1));
        bad("pipe(5, 5)", y -> y.pipe(5, 5));
        bad("pipe(5, least)", y -> y.pipe(5, LEAST));
        bad("pipe(5, greatest)", y -> y.pipe(5, GREATEST));
        bad("pipe(6, 5)", y -> y.pipe(6, 5));
    }

    private static void everyEnd() {
        sentence(6, "both ENDS (0 to 7; unlike)");
        for (int a = 0; a < 8; a++) {
            for (int b = 0; b < 8; b++) {
                if (a == b) {
                    continue;
                }
                FerretCables x = typed("" + (char) ('a' + a) + (char) ('a' + b) + "10");
                due("the first END", x.pipe(0, 0), a);
                due("the second END", x.pipe(0, 1), b);
                due("there is a way", x.shortest(a, b, NONE), 1);
                due("and back", x.shortest(b, a, NONE), 1);
            }
        }
    }

    private static void leastAndGreatestOfPipe() {
        sentence(6, "two figures: how long it is (1 to 9), how DAMP (0 to 9)");
        for (int n = 0; n <= 9; n++) {
            FerretCables x = typed("ab1" + n + (n == 0 ? "" : ";ab" + n + "0"));
            due("how DAMP", x.pipe(0, 3), n);
            due("how long the other one", x.pipe(1, 2), n == 0 ? BAD : n);
        }
    }

    private static void wiresOfPipe() {
        sentence(6, "how many wires it has behind all STEPS (4)");
        FerretCables x = typed("ab10;ab20");
        due("none", x.pipe(0, 4), 0);
        lets(x, 0, 1, 5);
        due("as many as it takes", x.pipe(0, 4), 4);
        due("the other one", x.pipe(1, 4), 1);
        x.pull(3);
        due("behind a PULL", x.pipe(0, 4), 3);
        x.pull(0);
        due("behind a PULL that is not done", x.pipe(0, 4), 3);
    }

    private static void severalPipes() {
        sentence(6, "Two ENDS may have several PIPES.");
        FerretCables x = typed(many("ab10;ba10", 8));
        due("PIPES", x.count(0), 16);
        due("the first END of the last", x.pipe(15, 0), 1);
        due("MOST", x.most(0, 1, 1), 64);
        due("heard(0, 1, 1)", x.heard(0, 1, 1), 16);
    }

    private static void whatOfSet() {
        sentence(7, "SHUT (what = 0; 0 to 65535), TAKES (1), HARD (2): what it was. BAD.");
        FerretCables x = new FerretCables();
        due("set(0, 7)", x.set(0, 7), 0);
        due("set(1, 3)", x.set(1, 3), 4);
        due("set(2, 8)", x.set(2, 8), 100);
        due("set(0, 0)", x.set(0, 0), 7);
        due("set(1, 4)", x.set(1, 4), 3);
        due("set(2, 100)", x.set(2, 100), 8);
        due("the same once more", x.set(2, 100), 100);
        bad("set(-1, 1)", y -> y.set(-1, 1));
        bad("set(3, 1)", y -> y.set(3, 1));
        bad("set(least, 1)", y -> y.set(LEAST, 1));
        bad("set(greatest, 1)", y -> y.set(GREATEST, 1));
    }

    private static void shutBounds() {
        sentence(7, "SHUT (what = 0; 0 to 65535)");
        FerretCables x = new FerretCables();
        due("set(0, 65535)", x.set(0, 65535), 0);
        due("set(0, 0)", x.set(0, 0), 65535);
        bad("set(0, -1)", y -> y.set(0, -1));
        bad("set(0, 65536)", y -> y.set(0, 65536));
        bad("set(0, least)", y -> y.set(0, LEAST));
        bad("set(0, greatest)", y -> y.set(0, GREATEST));
    }

    private static void takesBounds() {
        sentence(7, "TAKES (1 to 4;");
        FerretCables x = new FerretCables();
        due("set(1, 1)", x.set(1, 1), 4);
        due("set(1, 4)", x.set(1, 4), 1);
        bad("set(1, 0)", y -> y.set(1, 0));
        bad("set(1, 5)", y -> y.set(1, 5));
        bad("set(1, -1)", y -> y.set(1, -1));
        bad("set(1, least)", y -> y.set(1, LEAST));
        bad("set(1, greatest)", y -> y.set(1, GREATEST));
    }

    private static void hardBounds() {
        sentence(7, "HARD (1 to 999;");
        FerretCables x = new FerretCables();
        due("set(2, 1)", x.set(2, 1), 100);
        due("set(2, 999)", x.set(2, 999), 1);
        due("set(2, 100)", x.set(2, 100), 999);
        bad("set(2, 0)", y -> y.set(2, 0));
        bad("set(2, 1000)", y -> y.set(2, 1000));
        bad("set(2, -1)", y -> y.set(2, -1));
        bad("set(2, least)", y -> y.set(2, LEAST));
        bad("set(2, greatest)", y -> y.set(2, GREATEST));
    }

    private static void shutBits() {
        sentence(7, "SHUT PIPES (bits;");
        FerretCables x = typed(many("ab10", 16));
        x.letIn(0, 1);
        for (int p = 0; p < 16; p++) {
            x.set(0, 65535 & ~(1 << p));
            due("all SHUT but " + p, x.shortest(0, 1, 0), p);
            due("MOST, all SHUT but " + p, x.most(0, 1, 1), 3);
            due("the STEP is played anew", x.wire(1, 0), 1 << p);
            due("heard, all SHUT but " + p, x.heard(0, 1, 1), 1);
        }
    }

    private static void shutOfPipesNotThere() {
        sentence(7, "SHUT (what = 0; 0 to 65535)");
        FerretCables x = typed("ab10");
        x.set(0, 65534);
        due("the only one is not", x.shortest(0, 1, NONE), 1);
        typeOn(x, ";bc10");
        due("one that comes later is", x.shortest(1, 2, NONE), NONE);
        x.set(0, 0);
        due("no more", x.shortest(1, 2, NONE), 1);
    }
}
