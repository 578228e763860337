/** For each promise of the document: ordinary inputs, the edges that it names, and wrong inputs. */
public final class PromisesTest {
    private static final int NONE = FerretCables.NONE, BAD = FerretCables.BAD;
    private static final int NOT = FerretCables.NOT, FULL = FerretCables.FULL;
    private static final int NULL = -11, INDEX = -12, CAST = -13, STORE = -14, SIZE = -15;
    private static final int LEAST = Integer.MIN_VALUE;
    private static final int[] OFTEN = {Integer.MIN_VALUE, -5, -1, 1000000, Integer.MAX_VALUE};

    private static int passed = 0;
    private static int failed = 0;
    private static int promise = 0;

    private static void due(String call, long got, long want) {
        if (got == want) {
            passed++;
            return;
        }
        failed++;
        System.out.println("promise " + promise + ": " + call + " answered " + got + ", due is " + want);
    }

    private static FerretCables typed(String text) {
        FerretCables x = new FerretCables();
        typeOn(x, text);
        return x;
    }

    private static void typeOn(FerretCables x, String text) {
        for (int i = 0; i < text.length(); i++) {
            x.type(text.charAt(i));
        }
    }

    /** The same PIPE so many times. */
    private static String many(String pipe, int n) {
        StringBuilder b = new StringBuilder(pipe);
        for (int i = 1; i < n; i++) {
            b.append(';').append(pipe);
        }
        return b.toString();
    }

    /** PIPES 0 ab, 1 bc, 2 ac, 3 cd, 4 ad, 5 bc: as in the document's own example of a floor. */
    private static FerretCables floor() {
        return typed("ab12;bc23;ac45;cd11;ad90;bc14");
    }

    private static void newObject() {
        promise = 1;
        FerretCables x = new FerretCables();
        for (int what = 0; what <= 8; what++) {
            due("new count(" + what + ")", x.count(what), 0);
        }
        due("new fault()", x.fault(), NONE);
        for (int s = 0; s < 4; s++) {
            due("new lose(" + s + ")", x.lose(s), NULL);
        }
        due("SHUT at first", x.set(0, 1), 0);
        due("TAKES at first", x.set(1, 1), 4);
        due("HARD at first", x.set(2, 1), 100);
        due("another object is new", new FerretCables().set(2, 1), 100);
        due("NONE", FerretCables.NONE, -1);
        due("BAD", FerretCables.BAD, -2);
        due("NOT", FerretCables.NOT, -3);
        due("FULL", FerretCables.FULL, -4);
    }

    private static void type() {
        promise = 2;
        FerretCables x = new FerretCables();
        due("type(0)", x.type(0), 1);
        due("type(255)", x.type(255), 2);
        due("type(-1)", x.type(-1), BAD);
        due("type(256)", x.type(256), BAD);
        due("type(least)", x.type(LEAST), BAD);
        due("count(1) behind refusals", x.count(1), 2);
        x = typed(many("ab10", 16).substring(0, 78));
        due("the 79th byte", x.type('0'), 79);
        due("the 80th byte", x.type(';'), FULL);
        due("the 80th byte, wrong", x.type(256), BAD);
        due("count(1) behind FULL", x.count(1), 79);
        due("count(0) behind FULL", x.count(0), 16);
        x = new FerretCables();
        x.letIn(0, 1);
        due("a STEP without PIPES", x.count(3), 0);
        typeOn(x, "ab10");
        due("a STEP with PIPES typed later", x.count(3), 1);
        x.type(';');
        due("a STEP with a FAULT", x.count(3), 0);
    }

    private static void wipe() {
        promise = 3;
        FerretCables x = typed("ab10;zz");
        x.set(0, 2);
        x.letIn(0, 1);
        due("wipe()", x.wipe(), 7);
        due("wipe() again", x.wipe(), 0);
        due("fault()", x.fault(), NONE);
        due("count(0)", x.count(0), 0);
        due("count(1)", x.count(1), 0);
        due("STEPS stay", x.count(2), 1);
        due("none is done", x.count(3), 0);
        due("SHUT stays", x.set(0, 0), 2);
        due("type() from the start", x.type('a'), 1);
        x = typed("ab10");
        x.letIn(0, 1);
        due("a wire lies", x.count(4), 1);
        x.wipe();
        due("none lies without PIPES", x.count(4), 0);
    }

    private static void undo() {
        promise = 4;
        FerretCables x = typed("ab10;bc25;cd30");
        x.letIn(1, 2);
        due("a STEP", x.count(3), 1);
        due("undo()", x.undo(), 2);
        due("bytes", x.count(1), 9);
        due("the last that is left", x.pipe(1, 3), 5);
        due("undo()", x.undo(), 1);
        due("bytes", x.count(1), 4);
        due("the STEP has no way", x.count(3), 0);
        due("undo()", x.undo(), 0);
        due("bytes", x.count(1), 0);
        due("fault()", x.fault(), NONE);
        due("undo() of none", x.undo(), NOT);
        typeOn(x, "ef77");
        due("typed anew", x.pipe(0, 0), 4);
        x.type('x');
        due("undo() with a FAULT", x.undo(), NOT);
        due("bytes", x.count(1), 5);
        due("the FAULT stays", x.fault(), 4);
    }

    private static void fault() {
        promise = 5;
        faultOf("", NONE);
        faultOf("a", 1);
        faultOf("`", 0);
        faultOf("i", 0);
        faultOf("A", 0);
        faultOf(";", 0);
        faultOf("ab", 2);
        faultOf("aa", 1);
        faultOf("aa10", 1);
        faultOf("ai", 1);
        faultOf("a`", 1);
        faultOf("ab0", 2);
        faultOf("ab:", 2);
        faultOf("ab1", 3);
        faultOf("ab1/", 3);
        faultOf("ab1:", 3);
        faultOf("ab10", NONE);
        faultOf("hg99", NONE);
        faultOf("ab10,", 4);
        faultOf("ab100", 4);
        faultOf("ab10;", 5);
        faultOf("ab10;;", 5);
        faultOf("ab10;b", 6);
        faultOf("ab10;bb", 6);
        faultOf("ab10;ba", 7);
        faultOf("ab10;ba0x", 7);
        faultOf("ab10;ba19", NONE);
        faultOf("zab10", 0);
        faultOf(many("gh10", 16), NONE);
        faultOf(many("gh10", 15) + ";gg10", 76);
        FerretCables x = typed("ab1\u0130");
        due("a sign that is no byte is refused", x.count(1), 3);
        x = typed("ab1x");
        typeOn(x, "9;cd11");
        due("the first FAULT stays", x.fault(), 3);
        due("with a FAULT there are none", x.count(0), 0);
    }

    private static void faultOf(String text, int want) {
        due("fault() of " + text, typed(text).fault(), want);
    }

    private static void pipe() {
        promise = 6;
        FerretCables x = typed("ab10;hc92");
        int[] want = {7, 2, 9, 2, 0};
        for (int what = 0; what < 5; what++) {
            due("pipe(1, " + what + ")", x.pipe(1, what), want[what]);
        }
        due("pipe(0, 1)", x.pipe(0, 1), 1);
        x.letIn(2, 7);
        x.letIn(7, 2);
        due("pipe(1, 4) with wires", x.pipe(1, 4), 2);
        due("pipe(0, 4) with none", x.pipe(0, 4), 0);
        x.pull(1);
        due("pipe(1, 4) behind a PULL", x.pipe(1, 4), 1);
        due("pipe(2, 0)", x.pipe(2, 0), BAD);
        due("pipe(-1, 0)", x.pipe(-1, 0), BAD);
        due("pipe(0, 5)", x.pipe(0, 5), BAD);
        due("pipe(0, -1)", x.pipe(0, -1), BAD);
        x.type('!');
        due("pipe(0, 0) with a FAULT", x.pipe(0, 0), BAD);
        for (int n : OFTEN) {
            due("pipe(" + n + ", 0)", x.pipe(n, 0), BAD);
        }
    }

    private static void set() {
        promise = 7;
        FerretCables x = typed("ab10;ab20");
        due("set(0, 65535)", x.set(0, 65535), 0);
        due("set(0, 65536)", x.set(0, 65536), BAD);
        due("set(0, -1)", x.set(0, -1), BAD);
        due("set(0, 0)", x.set(0, 0), 65535);
        due("set(1, 1)", x.set(1, 1), 4);
        due("set(1, 0)", x.set(1, 0), BAD);
        due("set(1, 5)", x.set(1, 5), BAD);
        due("set(1, 4)", x.set(1, 4), 1);
        due("set(2, 999)", x.set(2, 999), 100);
        due("set(2, 1000)", x.set(2, 1000), BAD);
        due("set(2, 0)", x.set(2, 0), BAD);
        due("set(2, 1)", x.set(2, 1), 999);
        due("set(3, 1)", x.set(3, 1), BAD);
        due("set(-1, 1)", x.set(-1, 1), BAD);
        x.letIn(0, 1);
        due("the shorter PIPE", x.wire(1, 0), 1);
        x.set(0, 1);
        due("the other, the shorter being SHUT", x.wire(1, 0), 2);
        x.set(0, 3);
        due("no way, both being SHUT", x.judged(), 0);
        x.set(0, 0);
        x.letIn(0, 1);
        due("both in one", x.wire(2, 1), 1);
        x.set(1, 1);
        due("each in its own", x.wire(2, 1), 2);
    }

    private static void letIn() {
        promise = 8;
        FerretCables x = floor();
        due("letIn(0, 7)", x.letIn(0, 7), 1);
        due("letIn(7, 0)", x.letIn(7, 0), 2);
        due("letIn(3, 3)", x.letIn(3, 3), BAD);
        due("letIn(-1, 3)", x.letIn(-1, 3), BAD);
        due("letIn(3, -1)", x.letIn(3, -1), BAD);
        due("letIn(8, 3)", x.letIn(8, 3), BAD);
        due("letIn(3, 8)", x.letIn(3, 8), BAD);
        due("STEPS behind refusals", x.count(2), 2);
        for (int i = 3; i <= 16; i++) {
            due("letIn(0, 3)", x.letIn(0, 3), i);
        }
        due("letIn(0, 3), the 17th", x.letIn(0, 3), FULL);
        due("letIn(0, 0), the 17th", x.letIn(0, 0), BAD);
        due("STEPS behind FULL", x.count(2), 16);
        // four along 0, 5, 3, which are then full, and four by 4
        due("done", x.count(3), 8);
        x = typed("ab11;bc11;ac20;ac10;ac10");
        x.letIn(0, 2);
        due("the shortest, of like ones the least", x.wire(1, 0), 8);
        x = typed("ac20;bc10;ab10");
        x.letIn(2, 0);
        due("the least row from where she is let in", x.wire(1, 0), 1);
        x = typed("bc10;ac20;ab10");
        x.letIn(2, 0);
        due("one row is less by its first PIPE", x.wire(1, 0), 5);
        x.letIn(0, 2);
        due("but not from the other END", x.wire(2, 1), 2);
        x = typed("cd10;ab10;bd10;ac10");
        x.letIn(0, 3);
        due("rows are told from the start", x.wire(1, 0), 6);
        x = typed("ha10;bh10");
        x.letIn(1, 0);
        due("a PIPE is gone through either way", x.wire(1, 0), 3);
    }

    private static void pull() {
        promise = 9;
        FerretCables x = typed("ab10;bc10;cd10");
        due("pull(0)", x.pull(0), 1);
        due("pull(15)", x.pull(15), 2);
        due("pull(16)", x.pull(16), BAD);
        due("pull(-1)", x.pull(-1), BAD);
        due("judged: it does not lie", x.judged(), 0);
        x.letIn(0, 1);
        x.letIn(0, 2);
        x.letIn(2, 3);
        due("a wire was drawn later", x.pull(2), 6);
        due("it still lies", x.state(6, 0), 4 + 8 + 16);
        due("not hindered by another PIPE's wire", x.pull(3), 7);
        due("it is out", x.state(7, 0), 4 + 16);
        due("now the first", x.pull(2), 8);
        due("it is out", x.state(8, 0), 16);
        due("one twice", x.pull(2), 9);
        due("done", x.count(3), 5);
        for (int i = 10; i <= 16; i++) {
            due("pull(4)", x.pull(4), i);
        }
        due("the 17th", x.pull(4), FULL);
        due("the 17th, wrong", x.pull(16), BAD);
        due("done", x.count(3), 6);
        x = typed("ab10");
        x.pull(1);
        x.letIn(0, 1);
        due("a wire that is drawn only later", x.state(2, 0), 2);
    }

    private static void back() {
        promise = 10;
        FerretCables x = typed("ab10");
        due("back() of none", x.back(), NOT);
        x.letIn(0, 1);
        x.pull(0);
        due("none lies", x.count(4), 0);
        due("back()", x.back(), 1);
        due("it lies again", x.count(4), 1);
        due("back()", x.back(), 0);
        due("count(2)", x.count(2), 0);
        due("back() of none", x.back(), NOT);
        x.letIn(1, 0);
        due("another STEP in its place", x.state(1, 0), 1);
        x.back();
        x.pull(3);
        due("and yet another", x.state(1, 0), 0);
        for (int i = 1; i < 16; i++) {
            x.pull(0);
        }
        due("back() of 16", x.back(), 15);
        due("room for one", x.letIn(0, 1), 16);
    }

    private static void read() {
        promise = 11;
        FerretCables x = typed("ab10");
        due("read(0), LOST", x.read(0), NULL);
        due("count(8)", x.count(8), 1);
        due("read(-1)", x.read(-1), BAD);
        due("read(4)", x.read(4), BAD);
        x.sheet(0, 0, 0);
        due("read() of an empty one", x.read(0), 0);
        x.sheet(0, 0, 5);
        lay(x, 0, 0, 0, 1, 1, 0, 7);
        x.letIn(2, 3);
        due("two are whole", x.read(0), 2);
        due("they come behind", x.count(2), 3);
        due("they are drawn", x.state(3, 0), 6);
        x.sheet(2, 1, 4);
        lay(x, 2, 1, 6, 7, 7, 6);
        due("all are whole", x.read(2), 2);
        x.back();
        x.back();
        x.sheet(1, 2, 6);
        lay(x, 1, 2, 4, 5, 6, 6, 0, 1);
        due("till one may not be: to itself", x.read(1), 1);
        lay(x, 1, 2, -1, 5, 6, 5, 0, 1);
        due("the first may not be", x.read(1), 0);
        due("STEPS", x.count(2), 4);
        x.sheet(3, 1, 60);
        for (int i = 0; i < 60; i++) {
            x.lay(3, 1, i, i % 2);
        }
        due("till it is full", x.read(3), 12);
        due("it is full", x.read(3), 0);
        due("STEPS", x.count(2), 16);
    }

    private static void lay(FerretCables x, int s, int form, int... items) {
        for (int i = 0; i < items.length; i++) {
            x.lay(s, form, i, items[i]);
        }
    }

    private static void judged() {
        promise = 12;
        FerretCables x = typed("ab10");
        due("no STEPS", x.judged(), NONE);
        x.letIn(0, 1);
        due("all are done", x.judged(), NONE);
        x.letIn(0, 2);
        x.pull(7);
        due("the first that is not", x.judged(), 1);
        typeOn(x, ";bc10");
        due("the next one", x.judged(), 2);
        x.back();
        due("none", x.judged(), NONE);
        x.pull(0);
        due("a wire lies on it", x.judged(), 2);
        x.set(1, 1);
        due("the PIPE is FULL", x.judged(), 1);
    }

    private static void state() {
        promise = 13;
        FerretCables x = typed("ab10;bc10");
        x.set(1, 2);
        x.letIn(0, 1);
        x.letIn(0, 2);
        x.letIn(0, 1);
        x.letIn(1, 2);
        x.pull(3);
        int[] lie = {0, 1, 3, 3, 11, 3};
        int[] full = {0, 0, 1, 1, 3, 1};
        for (int k = 0; k <= 5; k++) {
            due("state(" + k + ", 0)", x.state(k, 0), lie[k]);
            due("state(" + k + ", 1)", x.state(k, 1), full[k]);
        }
        due("state(6, 0)", x.state(6, 0), BAD);
        due("state(-1, 0)", x.state(-1, 0), BAD);
        due("state(0, 2)", x.state(0, 2), BAD);
        due("state(0, -1)", x.state(0, -1), BAD);
        x.set(0, 65535);
        due("SHUT ones are not FULL", x.state(5, 1), 0);
        x = typed(many("ab10", 16));
        x.set(1, 1);
        for (int i = 0; i < 16; i++) {
            x.letIn(0, 1);
        }
        due("all wires", x.state(16, 0), 65535);
        due("all PIPES", x.state(16, 1), 65535);
    }

    private static void wire() {
        promise = 14;
        FerretCables x = floor();
        x.letIn(0, 3);
        x.letIn(3, 0);
        x.pull(1);
        due("wire(0, 0)", x.wire(0, 0), 0);
        due("wire(1, 0)", x.wire(1, 0), 1 + 8 + 32);
        due("wire(1, 1)", x.wire(1, 1), 0);
        due("wire(2, 1)", x.wire(2, 1), 41);
        due("wire(3, 1)", x.wire(3, 1), 0);
        due("wire(3, 0)", x.wire(3, 0), 41);
        due("wire(3, 2), a PULL", x.wire(3, 2), 0);
        due("wire(3, 15)", x.wire(3, 15), 0);
        due("wire(3, 16)", x.wire(3, 16), BAD);
        due("wire(3, -1)", x.wire(3, -1), BAD);
        due("wire(4, 0)", x.wire(4, 0), BAD);
        due("wire(-1, 0)", x.wire(-1, 0), BAD);
    }

    private static void out() {
        promise = 15;
        FerretCables x = typed("ab10;bc10;cd10;de10");
        x.letIn(0, 1);
        x.letIn(3, 4);
        x.letIn(0, 2);
        x.letIn(1, 3);
        x.letIn(2, 4);
        due("on and on", x.out(0), 1 + 4 + 8 + 16);
        due("out(1)", x.out(1), 2 + 16);
        due("out(2)", x.out(2), 4 + 8 + 16);
        due("out(3)", x.out(3), 8 + 16);
        due("the last alone", x.out(4), 16);
        due("none such", x.out(5), NOT);
        x.pull(4);
        due("drawn out", x.out(4), NOT);
        due("out(1) behind it", x.out(1), 2);
        due("out(0) behind it", x.out(0), 1 + 4 + 8);
        due("out(16)", x.out(16), BAD);
        due("out(-1)", x.out(-1), BAD);
        x = typed("ab10;cd10;ac90");
        x.letIn(0, 1);
        x.letIn(2, 3);
        x.letIn(1, 3);
        due("by the later one only, not by what that lies on", x.out(0), 1 + 4);
    }

    private static void shortest() {
        promise = 16;
        FerretCables x = floor();
        due("how long", x.shortest(0, 3, NONE), 3);
        int[] row = {0, 5, 3, NONE, NONE};
        for (int i = 0; i < row.length; i++) {
            due("shortest(0, 3, " + i + ")", x.shortest(0, 3, i), row[i]);
        }
        due("backwards", x.shortest(3, 0, 0), 3);
        due("far beyond", x.shortest(0, 3, Integer.MAX_VALUE), NONE);
        due("no way", x.shortest(0, 7, NONE), NONE);
        due("no way, its PIPE", x.shortest(0, 7, 0), NONE);
        due("one END twice", x.shortest(2, 2, NONE), BAD);
        due("shortest(8, 0, NONE)", x.shortest(8, 0, NONE), BAD);
        due("shortest(0, 8, NONE)", x.shortest(0, 8, NONE), BAD);
        due("shortest(-1, 0, NONE)", x.shortest(-1, 0, NONE), BAD);
        due("shortest(0, -1, NONE)", x.shortest(0, -1, NONE), BAD);
        due("i below NONE", x.shortest(0, 3, -2), BAD);
        due("i below NONE, no way", x.shortest(0, 7, -2), BAD);
        x.set(0, 32);
        due("one is SHUT", x.shortest(0, 3, NONE), 4);
        x.set(0, 0);
        x.set(1, 1);
        x.letIn(1, 2);
        due("one is FULL", x.shortest(0, 3, 1), 1);
        x.letIn(0, 1);
        due("two are FULL", x.shortest(0, 3, NONE), 5);
        x = typed("ab99;bc99;cd99;de99;ef99;fg99;gh99");
        due("the longest of all", x.shortest(0, 7, NONE), 63);
        due("its last PIPE", x.shortest(0, 7, 6), 6);
        due("none behind it", x.shortest(0, 7, 7), NONE);
    }

    private static void most() {
        promise = 17;
        FerretCables x = typed("ab10;cd10;bc10;ac50;bd50");
        x.set(1, 1);
        // the short way through the middle takes what two wires would need
        due("DRAWN", x.most(0, 3, 0), 1);
        due("MOST", x.most(0, 3, 1), 2);
        x.set(1, 3);
        due("DRAWN, TAKES 3", x.most(0, 3, 0), 3);
        due("MOST, TAKES 3", x.most(0, 3, 1), 6);
        x.letIn(0, 1);
        // two by the middle, one by 3 and 1, one by 3, 2 and 4
        due("DRAWN with a wire that lies", x.most(0, 3, 0), 4);
        due("MOST with a wire that lies", x.most(0, 3, 1), 5);
        due("backwards", x.most(3, 0, 1), 5);
        x.set(0, 8);
        due("MOST, one SHUT", x.most(0, 3, 1), 2);
        due("DRAWN, one SHUT", x.most(0, 3, 0), 2);
        due("no way", x.most(0, 7, 0), 0);
        due("no way", x.most(0, 7, 1), 0);
        due("one END twice", x.most(1, 1, 0), BAD);
        due("most(8, 0, 0)", x.most(8, 0, 0), BAD);
        due("most(0, 8, 0)", x.most(0, 8, 0), BAD);
        due("most(-1, 0, 1)", x.most(-1, 0, 1), BAD);
        due("most(0, -1, 1)", x.most(0, -1, 1), BAD);
        due("most(0, 1, 2)", x.most(0, 1, 2), BAD);
        due("most(0, 1, -1)", x.most(0, 1, -1), BAD);
        due("nothing was drawn", x.count(4), 1);
        x = typed(many("ab10", 16));
        due("DRAWN, more than STEPS", x.most(0, 1, 0), 64);
        due("MOST, more than STEPS", x.most(1, 0, 1), 64);
        for (int i = 0; i < 16; i++) {
            x.letIn(0, 1);
        }
        due("DRAWN behind 16 STEPS", x.most(0, 1, 0), 48);
        due("MOST behind 16 STEPS", x.most(0, 1, 1), 48);
    }

    private static void fails() {
        promise = 18;
        FerretCables x = typed("ab13;bc14;cd10");
        x.letIn(0, 1);
        x.letIn(0, 2);
        x.letIn(2, 3);
        due("3 a day", x.fails(0), 34);
        due("7 a day", x.fails(1), 15);
        due("never", x.fails(2), NONE);
        due("none such", x.fails(3), NONE);
        x.set(2, 99);
        due("just HARD", x.fails(0), 33);
        x.set(2, 1);
        due("the first day", x.fails(1), 1);
        x.set(2, 999);
        due("999 by 3", x.fails(0), 333);
        x.pull(1);
        due("it does not lie", x.fails(1), NONE);
        due("fails(16)", x.fails(16), BAD);
        due("fails(-1)", x.fails(-1), BAD);
        x = typed("ab11");
        x.set(2, 999);
        x.letIn(0, 1);
        due("the last day of all", x.fails(0), 999);
    }

    private static void soonest() {
        promise = 19;
        FerretCables x = typed("ab10;cd13;ef15;gh16");
        due("no wires", x.soonest(), NONE);
        x.letIn(0, 1);
        due("never", x.soonest(), NONE);
        x.letIn(2, 3);
        due("soonest()", x.soonest(), 1);
        x.letIn(6, 7);
        due("soonest()", x.soonest(), 2);
        x.letIn(4, 5);
        due("the wettest", x.soonest(), 2);
        x.set(2, 5);
        due("of like days the least", x.soonest(), 2);
        x.set(2, 3);
        due("of like days the least", x.soonest(), 1);
        x.pull(1);
        due("of those that lie", x.soonest(), 2);
        x = typed("ab11");
        x.set(2, 999);
        x.letIn(0, 1);
        due("on the last day of all", x.soonest(), 0);
    }

    private static void left() {
        promise = 20;
        FerretCables x = typed("ab10;cd13;ef15");
        x.letIn(0, 1);
        x.letIn(2, 3);
        x.letIn(4, 5);
        due("left(0)", x.left(0), 7);
        due("left(19)", x.left(19), 7);
        due("left(20)", x.left(20), 3);
        due("left(33)", x.left(33), 3);
        due("left(34)", x.left(34), 1);
        due("left(999)", x.left(999), 1);
        due("left(1000)", x.left(1000), BAD);
        due("left(-1)", x.left(-1), BAD);
        x.pull(0);
        due("wires that lie", x.left(0), 6);
        x = typed("ab90");
        x.letIn(0, 1);
        due("wire 0 never fails", x.left(999), 1);
        x = typed("ab99");
        x.letIn(0, 1);
        due("wire 0 has not failed", x.left(11), 1);
        due("wire 0 has failed", x.left(12), 0);
    }

    private static void burns() {
        promise = 21;
        FerretCables x = typed("ab10;bc10;cd10;de10");
        due("END 0 alone", x.burns(0), 1);
        x.letIn(3, 4);
        x.letIn(3, 1);
        due("not joined with END 0", x.burns(0), 1);
        x.letIn(0, 2);
        due("a wire's PIPES do not join", x.burns(0), 5);
        x.letIn(1, 2);
        due("on and on", x.burns(0), 31);
        due("one off", x.burns(1), 15);
        due("another off", x.burns(2), 7);
        due("the first off", x.burns(4), 1);
        due("all off", x.burns(65535), 1);
        due("wires that do not lie", x.burns(65520), 31);
        due("burns(65536)", x.burns(65536), BAD);
        due("burns(-1)", x.burns(-1), BAD);
    }

    private static void lit() {
        promise = 22;
        FerretCables x = typed("ab10;bc10");
        litOf(x, 0, 0, NONE, NONE);
        litOf(x, 1, 0, NONE, NONE);
        litOf(x, 4, 1, 2, NONE);
        litOf(x, 7, 2, 1, 2);
        x.set(1, 1);
        litOf(x, 6, 2, 1, 10);
        x.letIn(0, 1);
        litOf(x, 2, 0, NONE, NONE);
        litOf(x, 6, 1, 10, NONE);
        litOf(x, 8, NONE, NONE, NONE);
        x = typed("ab10;bc10;cd10");
        litOf(x, 14, NONE, NONE, NONE);
        x.letIn(3, 2);
        litOf(x, 8, 1, 2, NONE);
        litOf(x, 14, 2, 1, 2);
        x.set(0, 1);
        litOf(x, 2, NONE, NONE, NONE);
        // no way from END 0 but over the wire that lies
        x = typed("ab10;cd10;ef10");
        x.set(1, 1);
        x.letIn(0, 1);
        x.set(0, 0);
        litOf(x, 12, NONE, NONE, NONE);
        // the first may be one that burns only by the second
        x = typed("bc10;ac90");
        x.set(1, 1);
        litOf(x, 6, 2, 2, 10);
        x = typed("bc10;ab10");
        x.set(1, 1);
        litOf(x, 6, 2, 1, 10);
        // from 1 to 0 is the same wire, but a greater number
        x = typed("ah10");
        litOf(x, 128, 1, 7, NONE);
        // between them: 0 reaches only END 1, by the wire from 1 to 2 the lamp burns
        x = typed("ab10;bd10;cd10");
        x.set(1, 1);
        x.letIn(2, 3);
        litOf(x, 4, 1, 3, NONE);
        due("lit(256, 0)", x.lit(256, 0), BAD);
        due("lit(-1, 0)", x.lit(-1, 0), BAD);
        due("lit(1, 3)", x.lit(1, 3), BAD);
        due("lit(1, -1)", x.lit(1, -1), BAD);
        due("nothing was let in", x.count(2), 1);
    }

    private static void litOf(FerretCables x, int ends, int needed, int first, int second) {
        due("lit(" + ends + ", 0)", x.lit(ends, 0), needed);
        due("lit(" + ends + ", 1)", x.lit(ends, 1), first);
        due("lit(" + ends + ", 2)", x.lit(ends, 2), second);
    }

    private static void heard() {
        promise = 23;
        FerretCables x = typed("ab10;ab10;bc10");
        due("heard(0, 0, NONE)", x.heard(0, 0, NONE), 1);
        due("heard(0, 0, 0)", x.heard(0, 0, 0), 1);
        due("heard(0, 0, 1)", x.heard(0, 0, 1), 0);
        due("heard(0, 1, NONE)", x.heard(0, 1, NONE), 2);
        due("heard(0, 1, 1)", x.heard(0, 1, 1), 2);
        due("back by the other one", x.heard(0, 2, NONE), 5);
        due("heard(0, 2, 0)", x.heard(0, 2, 0), 2);
        due("heard(0, 2, 2)", x.heard(0, 2, 2), 2);
        due("not back through the same", x.heard(2, 1, 1), 1);
        due("heard(2, 2, NONE)", x.heard(2, 2, NONE), 1);
        due("heard(2, 3, NONE)", x.heard(2, 3, NONE), 2);
        x.set(0, 2);
        due("one SHUT", x.heard(0, 2, NONE), 4);
        due("a blind END", x.heard(0, 3, NONE), 0);
        x.set(0, 0);
        x.set(1, 1);
        x.letIn(1, 2);
        due("FULL does not matter", x.heard(0, 2, 2), 2);
        due("heard(7, 1, NONE)", x.heard(7, 1, NONE), 0);
        due("heard(8, 0, 0)", x.heard(8, 0, 0), BAD);
        due("heard(-1, 0, 0)", x.heard(-1, 0, 0), BAD);
        due("heard(0, 7, 0)", x.heard(0, 7, 0), BAD);
        due("heard(0, -1, 0)", x.heard(0, -1, 0), BAD);
        due("heard(0, 0, 8)", x.heard(0, 0, 8), BAD);
        due("heard(0, 0, -2)", x.heard(0, 0, -2), BAD);
        x = typed(many("ab10", 16));
        due("heard(0, 6, 7)", x.heard(0, 6, 7), 0);
        due("heard(7, 0, 7)", x.heard(7, 0, 7), 1);
        due("the most ways of all", x.heard(0, 6, 0), 16L * 15 * 15 * 15 * 15 * 15);
    }

    private static void meet() {
        promise = 24;
        FerretCables x = typed("ab40;ba10");
        meetOf(x, 0, 0, 0, 4, 0);
        meetOf(x, 0, 999, 999, 4, 0);
        meetOf(x, 0, 3, 0, 1, 0);
        meetOf(x, 0, 0, 3, 7, 1);
        meetOf(x, 0, 5, 6, 5, 1);
        meetOf(x, 0, 4, 0, NONE, NONE);
        meetOf(x, 0, 0, 4, NONE, NONE);
        meetOf(x, 0, 0, 999, NONE, NONE);
        meetOf(x, 0, 999, 0, NONE, NONE);
        meetOf(x, 1, 7, 7, 1, 0);
        meetOf(x, 1, 7, 8, NONE, NONE);
        meetOf(x, 2, 0, 0, BAD, BAD);
        meetOf(x, -1, 0, 0, BAD, BAD);
        meetOf(x, 0, -1, 0, BAD, BAD);
        meetOf(x, 0, 0, -1, BAD, BAD);
        meetOf(x, 0, 1000, 999, BAD, BAD);
        meetOf(x, 0, 999, 1000, BAD, BAD);
        meetOf(x, 0, LEAST, Integer.MAX_VALUE, BAD, BAD);
        due("meet(0, 0, 0, 2)", x.meet(0, 0, 0, 2), BAD);
        due("meet(0, 0, 0, -1)", x.meet(0, 0, 0, -1), BAD);
        due("they do not meet, but wrong", x.meet(0, 0, 9, 2), BAD);
    }

    private static void meetOf(FerretCables x, int pipe, int first, int second, int where, int who) {
        String call = "meet(" + pipe + ", " + first + ", " + second + ", ";
        due(call + "0)", x.meet(pipe, first, second, 0), where);
        due(call + "1)", x.meet(pipe, first, second, 1), who);
    }

    private static void drowsy() {
        promise = 25;
        FerretCables x = typed("ab10;ac10;ad10;ae10;af10;ag10;ah10");
        due("n = 0", x.drowsy(5, 3, 0), 3);
        for (int seed : new int[] {0, 1, 7, -1, 123456789, LEAST, Integer.MAX_VALUE}) {
            int lot = 1103515245 * seed + 12345;
            due("drowsy(" + seed + ", 0, 1)", x.drowsy(seed, 0, 1), 1 + (lot >>> 16) % 7);
            due("there and back", x.drowsy(seed, 0, 2), 0);
            // on the way back the only PIPE takes a LOT, too
            int third = 1103515245 * (1103515245 * lot + 12345) + 12345;
            due("drowsy(" + seed + ", 0, 3)", x.drowsy(seed, 0, 3), 1 + (third >>> 16) % 7);
        }
        x.set(0, 127 - 16);
        due("but one SHUT", x.drowsy(99, 0, 19), 5);
        due("but one SHUT", x.drowsy(99, 0, 20), 0);
        due("she stays", x.drowsy(99, 1, 20), 1);
        due("drowsy(0, 8, 0)", x.drowsy(0, 8, 0), BAD);
        due("drowsy(0, -1, 0)", x.drowsy(0, -1, 0), BAD);
        due("drowsy(0, 0, 21)", x.drowsy(0, 0, 21), BAD);
        due("drowsy(0, 0, -1)", x.drowsy(0, 0, -1), BAD);
    }

    private static void chalk() {
        promise = 26;
        FerretCables x = new FerretCables();
        due("chalk(0, 0, 0)", x.chalk(0, 0, 0), BAD);
        due("chalk(16, 0, 1)", x.chalk(16, 0, 1), BAD);
        due("chalk(-1, 0, 1)", x.chalk(-1, 0, 1), BAD);
        due("chalk(0, 8, 1)", x.chalk(0, 8, 1), BAD);
        due("chalk(0, -1, 1)", x.chalk(0, -1, 1), BAD);
        due("chalk(0, 1, 8)", x.chalk(0, 1, 8), BAD);
        due("chalk(0, 1, -1)", x.chalk(0, 1, -1), BAD);
        due("marks behind refusals", x.count(5), 0);
        for (int i = 1; i <= 8; i++) {
            due("chalk(15, 7, 0)", x.chalk(15, 7, 0), i);
        }
        due("the ninth", x.chalk(15, 7, 0), FULL);
        due("the ninth, wrong", x.chalk(15, 7, 7), BAD);
        due("marks", x.count(5), 8);
    }

    private static void lies() {
        promise = 27;
        FerretCables x = typed("ab10;bc10");
        due("no marks", x.lies(), 0);
        x.chalk(0, 0, 2);
        x.chalk(0, 2, 0);
        x.chalk(0, 0, 1);
        x.chalk(1, 0, 2);
        due("no wires", x.lies(), 15);
        x.letIn(0, 2);
        due("either way is so", x.lies(), 12);
        x.letIn(2, 0);
        due("another wire", x.lies(), 4);
        x.pull(1);
        due("it was drawn out", x.lies(), 12);
        x.chalk(2, 0, 1);
        due("a PULL is no wire", x.lies(), 28);
        x.chalk(15, 0, 1);
        x.chalk(0, 0, 2);
        x.chalk(15, 0, 1);
        due("eight marks", x.lies(), 28 + 32 + 128);
    }

    private static void scene() {
        promise = 28;
        FerretCables x = new FerretCables();
        due("scene(256)", x.scene(256), BAD);
        due("scene(-1)", x.scene(-1), BAD);
        for (int i = 1; i <= 6; i++) {
            due("scene(255)", x.scene(i == 1 ? 0 : 255), i);
        }
        due("the seventh", x.scene(3), FULL);
        due("the seventh, wrong", x.scene(256), BAD);
        due("SCENES", x.count(6), 6);
    }

    private static void scenes() {
        promise = 29;
        FerretCables x = typed("ab10;ac10");
        due("none", x.scenes(0), 0);
        x.scene(0);
        x.scene(1);
        x.scene(2);
        x.scene(3);
        x.scene(7);
        x.scene(6);
        x.letIn(0, 1);
        x.letIn(0, 2);
        x.pull(0);
        due("scenes(0)", x.scenes(0), 3);
        due("scenes(1)", x.scenes(1), 12);
        due("scenes(2)", x.scenes(2), 48);
        due("just these burn", x.scenes(3), 0);
        due("scenes(4)", x.scenes(4), BAD);
        due("scenes(-1)", x.scenes(-1), BAD);
    }

    private static void cue() {
        promise = 30;
        FerretCables x = typed("ab10;ac10");
        due("cue(0) of none", x.cue(0), BAD);
        x.scene(0);
        x.scene(2);
        x.scene(4);
        x.scene(6);
        x.letIn(0, 1);
        x.pull(0);
        x.letIn(2, 0);
        due("the least k", x.cue(0), 0);
        due("cue(1)", x.cue(1), 1);
        due("behind all STEPS", x.cue(2), 3);
        due("never", x.cue(3), NONE);
        due("cue(4)", x.cue(4), BAD);
        due("cue(-1)", x.cue(-1), BAD);
    }

    private static void forget() {
        promise = 31;
        FerretCables x = new FerretCables();
        x.chalk(0, 0, 1);
        x.chalk(0, 0, 1);
        x.scene(2);
        due("forget(2)", x.forget(2), BAD);
        due("forget(-1)", x.forget(-1), BAD);
        due("forget(0)", x.forget(0), 2);
        due("marks", x.count(5), 0);
        due("lies()", x.lies(), 0);
        due("SCENES stay", x.count(6), 1);
        due("forget(1)", x.forget(1), 1);
        due("SCENES", x.count(6), 0);
        due("cue(0)", x.cue(0), BAD);
        due("forget(1) again", x.forget(1), 0);
        due("forget(0) again", x.forget(0), 0);
        due("a mark anew", x.chalk(1, 2, 3), 1);
        due("a SCENE anew", x.scene(0), 1);
        due("it is the new one", x.scenes(0), 1);
    }

    private static void sheet() {
        promise = 32;
        FerretCables x = new FerretCables();
        due("sheet(0, 0, 0)", x.sheet(0, 0, 0), 0);
        due("sheet(3, 2, 60)", x.sheet(3, 2, 60), 60);
        due("sheet(3, 2, 61)", x.sheet(3, 2, 61), BAD);
        due("sheet(-1, 2, 6)", x.sheet(-1, 2, 6), BAD);
        due("sheet(4, 2, 6)", x.sheet(4, 2, 6), BAD);
        due("sheet(0, 3, 6)", x.sheet(0, 3, 6), BAD);
        due("sheet(0, -1, 6)", x.sheet(0, -1, 6), BAD);
        due("no FINDING", x.count(8), 0);
        due("sheet(0, 3, -1)", x.sheet(0, 3, -1), BAD);
        due("sheet(4, 0, -1)", x.sheet(4, 0, -1), BAD);
        due("sheet(3, 0, -1)", x.sheet(3, 0, -1), SIZE);
        due("sheet(3, 0, least)", x.sheet(3, 0, LEAST), SIZE);
        due("count(8)", x.count(8), 5);
        for (int i = 0; i < 60; i++) {
            x.lay(3, 2, i, 7);
        }
        due("it stays behind SIZE", x.get(3, 2, 59), 7);
        due("anew", x.sheet(3, 2, 60), 60);
        for (int i = 0; i < 60; i++) {
            due("its items are 0", x.get(3, 2, i), 0);
        }
        due("of another FORM", x.sheet(3, 0, 2), 2);
        due("it has just these", x.lay(3, 0, 2, 1), INDEX);
        due("its neighbour", x.sheet(2, 0, 60), 60);
        x.lay(2, 0, 59, 9);
        due("does not touch it", x.get(3, 0, 0), 0);
        due("lose() of an empty one", x.lose(0), 0);
    }

    private static void lose() {
        promise = 33;
        FerretCables x = new FerretCables();
        x.sheet(2, 1, 7);
        due("lose(2)", x.lose(2), 7);
        due("no FINDING", x.count(8), 0);
        due("lose(2) again", x.lose(2), NULL);
        due("count(8)", x.count(8), 1);
        due("lose(4)", x.lose(4), BAD);
        due("lose(-1)", x.lose(-1), BAD);
        due("it is LOST", x.lay(2, 1, 0, 0), NULL);
    }

    private static void lay() {
        promise = 34;
        FerretCables x = new FerretCables();
        x.sheet(0, 0, 2);
        x.sheet(1, 1, 2);
        x.sheet(2, 2, 2);
        due("lay(0, 0, 1, 300)", x.lay(0, 0, 1, 300), 1);
        due("a byte", x.get(0, 0, 1), 44);
        x.lay(0, 0, 0, 128);
        due("a byte below 0", x.get(0, 0, 0), -128);
        due("lay(1, 1, 0, 98304)", x.lay(1, 1, 0, 98304), 1);
        due("a short below 0", x.get(1, 1, 0), -32768);
        x.lay(1, 1, 0, -65537);
        due("a short", x.get(1, 1, 0), -1);
        due("lay(2, 2, 1, least)", x.lay(2, 2, 1, LEAST), 1);
        due("an int", x.get(2, 2, 1), LEAST);
        due("lay(4, 0, 0, 0)", x.lay(4, 0, 0, 0), BAD);
        due("lay(-1, 0, 0, 0)", x.lay(-1, 0, 0, 0), BAD);
        due("lay(0, 3, 0, 0)", x.lay(0, 3, 0, 0), BAD);
        due("lay(3, -1, 0, 0)", x.lay(3, -1, 0, 0), BAD);
        due("no FINDING", x.count(8), 0);
        due("lay(3, 0, 0, 0)", x.lay(3, 0, 0, 0), NULL);
        due("count(8)", x.count(8), 1);
        due("CAST is told ahead of INDEX", x.lay(0, 1, 9, 0), CAST);
        due("count(8)", x.count(8), 3);
        due("lay(0, 0, 2, 0)", x.lay(0, 0, 2, 0), INDEX);
        due("lay(0, 0, -1, 0)", x.lay(0, 0, -1, 0), INDEX);
        due("count(8)", x.count(8), 2);
        due("items stay", x.get(0, 0, 1), 44);
    }

    private static void get() {
        promise = 35;
        FerretCables x = new FerretCables();
        x.sheet(0, 2, 3);
        x.lay(0, 2, 2, -9);
        due("get(0, 2, 2)", x.get(0, 2, 2), -9);
        due("get(0, 2, 0)", x.get(0, 2, 0), 0);
        due("get(4, 2, 0)", x.get(4, 2, 0), LEAST);
        due("get(-1, 2, 0)", x.get(-1, 2, 0), LEAST);
        due("get(0, 3, 0)", x.get(0, 3, 0), LEAST);
        due("get(0, -1, 0)", x.get(0, -1, 0), LEAST);
        due("BAD is no FINDING", x.count(8), 0);
        due("get(1, 2, 0)", x.get(1, 2, 0), LEAST);
        due("NULL", x.count(8), 1);
        due("get(0, 2, 3)", x.get(0, 2, 3), LEAST);
        due("INDEX", x.count(8), 2);
        due("get(0, 0, 3)", x.get(0, 0, 3), LEAST);
        due("CAST", x.count(8), 3);
        due("get(0, 2, -1)", x.get(0, 2, -1), LEAST);
        due("INDEX", x.count(8), 2);
        due("a good one leaves it", x.get(0, 2, 2), -9);
        due("INDEX", x.count(8), 2);
    }

    private static void copy() {
        promise = 36;
        FerretCables x = new FerretCables();
        x.sheet(0, 1, 5);
        lay(x, 0, 1, 1, 2, 3, 4, 5);
        due("onwards in itself", x.copy(0, 0, 0, 1, 4), 1);
        itemsOf(x, 0, 1, 1, 1, 2, 3, 4);
        due("backwards in itself", x.copy(0, 2, 0, 0, 3), 1);
        itemsOf(x, 0, 1, 2, 3, 4, 3, 4);
        x.sheet(1, 1, 3);
        due("to another one", x.copy(0, 3, 1, 1, 2), 1);
        itemsOf(x, 1, 1, 0, 3, 4);
        due("none at its end", x.copy(0, 5, 1, 3, 0), 1);
        due("none behind its end", x.copy(0, 6, 1, 0, 0), INDEX);
        due("not so many here", x.copy(0, 4, 1, 0, 2), INDEX);
        due("not so many there", x.copy(0, 0, 1, 0, 4), INDEX);
        due("below 0", x.copy(0, -1, 1, 0, 1), INDEX);
        due("below 0", x.copy(0, 0, 1, -1, 1), INDEX);
        due("below 0", x.copy(0, 0, 1, 0, -1), INDEX);
        due("far too many", x.copy(0, 1, 1, 0, Integer.MAX_VALUE), INDEX);
        due("far behind", x.copy(0, Integer.MAX_VALUE, 1, 0, 1), INDEX);
        due("count(8)", x.count(8), 2);
        itemsOf(x, 1, 1, 0, 3, 4);
        x.sheet(2, 2, 3);
        due("STORE is told ahead of INDEX", x.copy(0, 0, 2, 0, 9), STORE);
        due("STORE, even of none", x.copy(2, 0, 0, 0, 0), STORE);
        due("count(8)", x.count(8), 4);
        due("LOST", x.copy(0, 0, 3, 0, 1), NULL);
        due("LOST", x.copy(3, 0, 0, 0, 1), NULL);
        due("count(8)", x.count(8), 1);
        due("copy(4, ..)", x.copy(4, 0, 3, 0, 1), BAD);
        due("copy(3, 0, 4, ..)", x.copy(3, 0, 4, 0, 1), BAD);
        due("copy(-1, ..)", x.copy(-1, 0, 0, 0, 1), BAD);
        due("copy(0, 0, -1, ..)", x.copy(0, 0, -1, 0, 1), BAD);
    }

    private static void itemsOf(FerretCables x, int s, int form, int... want) {
        for (int i = 0; i < want.length; i++) {
            due("item " + i + " of " + s, x.get(s, form, i), want[i]);
        }
    }

    private static void write() {
        promise = 37;
        FerretCables x = floor();
        due("LOST", x.write(0, 3, 0), NULL);
        due("count(8)", x.count(8), 1);
        x.sheet(0, 0, 5);
        lay(x, 0, 0, 9, 9, 9, 9, 9);
        due("as many as PIPES", x.write(0, 3, 0), 3);
        itemsOf(x, 0, 0, 0, 5, 3, 9, 9);
        x.sheet(1, 2, 2);
        due("as many as items", x.write(3, 0, 1), 2);
        itemsOf(x, 1, 2, 3, 5);
        due("no way", x.write(0, 7, 0), 0);
        itemsOf(x, 0, 0, 0, 5, 3, 9, 9);
        x.sheet(2, 1, 0);
        due("no items", x.write(0, 3, 2), 0);
        due("one END twice", x.write(3, 3, 3), BAD);
        due("write(8, 0, 3)", x.write(8, 0, 3), BAD);
        due("write(0, 8, 3)", x.write(0, 8, 3), BAD);
        due("write(-1, 0, 3)", x.write(-1, 0, 3), BAD);
        due("write(0, -1, 3)", x.write(0, -1, 3), BAD);
        due("write(0, 1, 4)", x.write(0, 1, 4), BAD);
        due("write(0, 1, -1)", x.write(0, 1, -1), BAD);
        due("LOST, no way", x.write(0, 7, 3), NULL);
    }

    private static void count() {
        promise = 38;
        FerretCables x = typed("ab40;cd99;ha10");
        x.letIn(0, 1);
        x.letIn(0, 2);
        x.letIn(0, 7);
        x.pull(0);
        x.chalk(0, 0, 1);
        x.chalk(0, 0, 1);
        for (int i = 0; i < 5; i++) {
            x.scene(i);
        }
        x.lose(0);
        int[] want = {3, 14, 4, 3, 1, 2, 5, 14, 1};
        for (int what = 0; what <= 8; what++) {
            due("count(" + what + ")", x.count(what), want[what]);
        }
        due("count(9)", x.count(9), BAD);
        due("count(-1)", x.count(-1), BAD);
        x.type(';');
        due("PIPES with a FAULT", x.count(0), 0);
        due("how long with a FAULT", x.count(7), 0);
        due("bytes with a FAULT", x.count(1), 15);
        x.sheet(0, 0, 1);
        x.sheet(1, 1, 1);
        int[] findings = {x.lose(2), x.lay(0, 0, 1, 0), 0, 0, 0};
        due("count(8)", x.count(8), 2);
        findings[2] = x.lay(0, 1, 0, 0);
        due("count(8)", x.count(8), 3);
        findings[3] = x.copy(0, 0, 1, 0, 1);
        due("count(8)", x.count(8), 4);
        findings[4] = x.sheet(0, 0, -1);
        due("count(8)", x.count(8), 5);
        for (int i = 0; i < 5; i++) {
            due("FINDING " + (i + 1), findings[i], -11 - i);
        }
        x.sheet(0, 7, 7);
        due("BAD leaves count(8)", x.count(8), 5);
    }

    private static void digest() {
        promise = 39;
        FerretCables x = new FerretCables();
        due("digest() of a new object", x.digest(), digestAsTold(x));
        x = floor();
        due("digest() with PIPES", x.digest(), digestAsTold(x));
        x.set(1, 2);
        x.letIn(0, 3);
        x.letIn(3, 1);
        x.letIn(1, 2);
        x.pull(1);
        x.letIn(2, 7);
        x.chalk(0, 0, 3);
        x.chalk(1, 0, 3);
        x.scene(8);
        long full = x.digest();
        due("digest() with all", full, digestAsTold(x));
        due("digest() changes nothing", x.digest(), full);
        x.lose(0);
        due("a FINDING is not in it", x.digest(), full);
        x.set(2, 11);
        due("digest(), less HARD", x.digest(), digestAsTold(x));
        due("which is another one", x.digest() == full ? 1 : 0, 0);
        x.type('x');
        due("digest() with a FAULT", x.digest(), digestAsTold(x));
        // here DRAWN is not MOST, and a wire fails on day 10
        x = typed("ab10;cd10;bc10;ac50;bd50;ef91");
        x.set(1, 1);
        due("digest() where DRAWN is less", x.digest(), digestAsTold(x));
        x.set(2, 10);
        x.letIn(4, 5);
        due("digest() on the last day but one", x.digest(), digestAsTold(x));
        x = typed("ab10;bc10;cd10;de10;ef10");
        due("digest() along a row", x.digest(), digestAsTold(x));
    }

    private static long digestAsTold(FerretCables x) {
        java.util.ArrayList<Integer> each = new java.util.ArrayList<>();
        int all = x.count(2);
        for (int what = 0; what <= 7; what++) {
            each.add(x.count(what));
        }
        each.add(x.fault());
        each.add(x.judged());
        for (int p = 0; p < x.count(0); p++) {
            for (int what = 0; what <= 4; what++) {
                each.add(x.pipe(p, what));
            }
        }
        for (int w = 0; w < 16; w++) {
            each.add(x.wire(all, w));
            each.add(x.out(w));
            each.add(x.fails(w));
        }
        each.add(x.state(all, 0));
        each.add(x.state(all, 1));
        each.add(x.soonest());
        each.add(x.left(9));
        each.add(x.burns(0));
        each.add(x.burns(5));
        for (int e = 1; e <= 7; e++) {
            each.add(x.shortest(0, e, NONE));
            each.add(x.most(0, e, 0));
            each.add(x.most(0, e, 1));
            each.add(x.heard(0, 3, e));
        }
        for (int what = 0; what <= 2; what++) {
            each.add(x.lit(14, what));
        }
        each.add(x.heard(0, 4, NONE));
        each.add(x.drowsy(7, 0, 9));
        each.add(x.lies());
        each.add(x.scenes(all));
        each.add(x.cue(0));
        long h = 17;
        for (int one : each) {
            h = 31 * h + one;
        }
        return h;
    }

    public static void main(String[] args) {
        newObject();
        type();
        wipe();
        undo();
        fault();
        pipe();
        set();
        letIn();
        pull();
        back();
        read();
        judged();
        state();
        wire();
        out();
        shortest();
        most();
        fails();
        soonest();
        left();
        burns();
        lit();
        heard();
        meet();
        drowsy();
        chalk();
        lies();
        scene();
        scenes();
        cue();
        forget();
        sheet();
        lose();
        lay();
        get();
        copy();
        write();
        count();
        digest();
        System.out.println("PromisesTest: " + passed + " answers as due, " + failed + " not");
        if (failed != 0) {
            System.exit(1);
        }
    }
}
