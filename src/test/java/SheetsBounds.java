/** Boundary cases of promises 32 to 37: SHEETS and FINDINGS. */
final class SheetsBounds extends Bounds {
    private static final int[] BITS = {8, 16, 32};

    static void all() {
        sheetsOfSheet();
        formsOfSheet();
        itemsOfSheet();
        sizeOfSheet();
        itemsAreNought();
        aNewRow();
        sheetsOfLose();
        loseOfAny();
        loseOfLost();
        sheetsOfLay();
        itemsOfLay();
        lowestBits();
        castOfLay();
        orderOfLay();
        itemsOfGet();
        badOfGet();
        findingsOfGet();
        orderOfGet();
        sheetsOfCopy();
        lostOfCopy();
        storeOfCopy();
        indexOfCopy();
        copyOfNone();
        copyOfAll();
        copyAsTheyWere();
        endsOfWrite();
        writeOneEndTwice();
        lostOfWrite();
        asManyOfWrite();
        writeWithoutWay();
        writeOfForms();
        numbersOfFindings();
    }

    private static void sheetsOfSheet() {
        sentence(32, "A SHEET is a new row of a FORM with n items: n. BAD: SHEET, FORM, above 60; SIZE.");
        for (int s = 0; s < 4; s++) {
            due("sheet(" + s + ", 0, 1)", new FerretCables().sheet(s, 0, 1), 1);
        }
        bad("sheet(-1, 0, 1)", x -> x.sheet(-1, 0, 1));
        bad("sheet(4, 0, 1)", x -> x.sheet(4, 0, 1));
        bad("sheet(least, 0, 1)", x -> x.sheet(LEAST, 0, 1));
        bad("sheet(greatest, 0, 1)", x -> x.sheet(GREATEST, 0, 1));
    }

    private static void formsOfSheet() {
        sentence(32, "a row of a FORM: 0 bytes, 1 shorts, 2 ints");
        for (int form = 0; form < 3; form++) {
            FerretCables x = new FerretCables();
            due("sheet(0, " + form + ", 1)", x.sheet(0, form, 1), 1);
            for (int other = 0; other < 3; other++) {
                due("lay(0, " + other + ", 0, 5)", x.lay(0, other, 0, 5), other == form ? 1 : CAST);
            }
        }
        for (int s : new int[] {0, 3}) {
            bad("sheet(" + s + ", -1, 1)", x -> x.sheet(s, -1, 1));
            bad("sheet(" + s + ", 3, 1)", x -> x.sheet(s, 3, 1));
            bad("sheet(" + s + ", least, 1)", x -> x.sheet(s, LEAST, 1));
            bad("sheet(" + s + ", greatest, 1)", x -> x.sheet(s, GREATEST, 1));
        }
    }

    private static void itemsOfSheet() {
        sentence(32, "of 0 to 60 items");
        for (int form = 0; form < 3; form++) {
            FerretCables x = new FerretCables();
            due("of none", x.sheet(1, form, 0), 0);
            due("it has no item 0", x.lay(1, form, 0, 1), INDEX);
            due("it is not LOST", x.lose(1), 0);
            due("of one", x.sheet(1, form, 1), 1);
            due("item 0", x.lay(1, form, 0, 1), 1);
            due("no item 1", x.lay(1, form, 1, 1), INDEX);
            due("of 59", x.sheet(1, form, 59), 59);
            due("no item 59", x.lay(1, form, 59, 1), INDEX);
            due("of 60", x.sheet(1, form, 60), 60);
            due("item 59", x.lay(1, form, 59, 1), 1);
            due("no item 60", x.lay(1, form, 60, 1), INDEX);
            int f = form;
            for (int s : new int[] {0, 3}) {
                bad("sheet(" + s + ", " + form + ", 61)", y -> y.sheet(s, f, 61));
                bad("sheet(" + s + ", " + form + ", greatest)", y -> y.sheet(s, f, GREATEST));
            }
        }
    }

    private static void sizeOfSheet() {
        sentence(32, "5 SIZE: below 0");
        for (int s : new int[] {0, 3}) {
            refused(Stage::rich, "sheet(" + s + ", 0, -1)", x -> x.sheet(s, 0, -1), SIZE);
            refused(Stage::rich, "sheet(" + s + ", 2, least)", x -> x.sheet(s, 2, LEAST), SIZE);
        }
        bad("sheet(4, 0, -1)", x -> x.sheet(4, 0, -1));
        bad("sheet(-1, 0, -1)", x -> x.sheet(-1, 0, -1));
        bad("sheet(0, 3, -1)", x -> x.sheet(0, 3, -1));
        bad("sheet(0, -1, -1)", x -> x.sheet(0, -1, -1));
    }

    private static void itemsAreNought() {
        sentence(32, "items (0 at first)");
        for (int form = 0; form < 3; form++) {
            FerretCables x = new FerretCables();
            x.sheet(3, form, 60);
            for (int i = 0; i < 60; i++) {
                due("item " + i, x.get(3, form, i), 0);
                x.lay(3, form, i, 9);
            }
            x.sheet(3, form, 60);
            for (int i = 0; i < 60; i++) {
                due("item " + i + " anew", x.get(3, form, i), 0);
                x.lay(3, form, i, 9);
            }
            x.lose(3);
            x.sheet(3, form, 60);
            due("item 59 behind lose()", x.get(3, form, 59), 0);
        }
    }

    private static void aNewRow() {
        sentence(32, "A SHEET is a new row of a FORM with n items: n.");
        FerretCables x = Stage.rich();
        due("shorter", x.sheet(0, 0, 2), 2);
        due("its last", x.get(0, 0, 1), 0);
        due("no more", x.lay(0, 0, 2, 1), INDEX);
        due("of another FORM", x.sheet(0, 2, 6), 6);
        due("its last", x.get(0, 2, 5), 0);
        due("the SHEET beside it", x.get(1, 1, 0), 300);
        x = new FerretCables();
        for (int s = 0; s < 4; s++) {
            x.sheet(s, 2, 60);
            x.lay(s, 2, 0, 10 + s);
            x.lay(s, 2, 59, 20 + s);
        }
        for (int s = 0; s < 4; s++) {
            due("the first of each", x.get(s, 2, 0), 10 + s);
            due("the last of each", x.get(s, 2, 59), 20 + s);
        }
    }

    private static void sheetsOfLose() {
        sentence(33, "It is LOST: how many items it had. BAD; NULL.");
        bad("lose(-1)", x -> x.lose(-1));
        bad("lose(4)", x -> x.lose(4));
        bad("lose(least)", x -> x.lose(LEAST));
        bad("lose(greatest)", x -> x.lose(GREATEST));
        FerretCables x = Stage.rich();
        due("lose(0)", x.lose(0), 5);
        due("the others stay", x.get(1, 1, 0), 300);
        x.sheet(3, 0, 7);
        due("lose(3)", x.lose(3), 7);
        due("no new FINDING", x.count(8), 4);
    }

    private static void loseOfAny() {
        sentence(33, "It is LOST: how many items it had.");
        for (int n : new int[] {0, 1, 59, 60}) {
            FerretCables x = new FerretCables();
            x.sheet(2, 1, n);
            due("of " + n, x.lose(2), n);
            due("count(8)", x.count(8), 0);
            due("again", x.lose(2), NULL);
        }
    }

    private static void loseOfLost() {
        sentence(33, "1 NULL: the SHEET is LOST");
        refused(Stage::rich, "lose(3)", x -> x.lose(3), NULL);
        for (int s = 0; s < 4; s++) {
            int sheet = s;
            refused(FerretCables::new, "lose(" + s + ")", x -> x.lose(sheet), NULL);
        }
    }

    private static void sheetsOfLay() {
        sentence(34, "Item i, treated as of a FORM, becomes v (the lowest bits that it has): 1. BAD; NULL; CAST; INDEX.");
        bad("lay(-1, 0, 0, 7)", x -> x.lay(-1, 0, 0, 7));
        bad("lay(4, 0, 0, 7)", x -> x.lay(4, 0, 0, 7));
        bad("lay(least, 0, 0, 7)", x -> x.lay(LEAST, 0, 0, 7));
        bad("lay(greatest, 0, 0, 7)", x -> x.lay(GREATEST, 0, 0, 7));
        bad("lay(0, -1, 0, 7)", x -> x.lay(0, -1, 0, 7));
        bad("lay(0, 3, 0, 7)", x -> x.lay(0, 3, 0, 7));
        bad("lay(0, least, 0, 7)", x -> x.lay(0, LEAST, 0, 7));
        bad("lay(0, greatest, 0, 7)", x -> x.lay(0, GREATEST, 0, 7));
    }

    private static void itemsOfLay() {
        sentence(34, "2 INDEX: there is no such item");
        int[] sizes = {5, 4, 3};
        for (int s = 0; s < 3; s++) {
            int sheet = s;
            int size = sizes[s];
            FerretCables x = Stage.rich();
            due("item 0", x.lay(s, s, 0, 11), 1);
            due("it is", x.get(s, s, 0), 11);
            due("the last item", x.lay(s, s, size - 1, 12), 1);
            due("it is", x.get(s, s, size - 1), 12);
            refused(Stage::rich, "lay(" + s + ", .., -1, 7)", y -> y.lay(sheet, sheet, -1, 7), INDEX);
            refused(Stage::rich, "lay(" + s + ", .., " + size + ", 7)", y -> y.lay(sheet, sheet, size, 7), INDEX);
            refused(Stage::rich, "lay(" + s + ", .., 60, 7)", y -> y.lay(sheet, sheet, 60, 7), INDEX);
            refused(Stage::rich, "lay(" + s + ", .., least, 7)", y -> y.lay(sheet, sheet, LEAST, 7), INDEX);
            refused(Stage::rich, "lay(" + s + ", .., greatest, 7)", y -> y.lay(sheet, sheet, GREATEST, 7), INDEX);
        }
    }

    private static void lowestBits() {
        sentence(34, "becomes v (the lowest bits that it has)");
        int[] vs = {0, 1, -1, 127, 128, -128, -129, 255, 256, 32767, 32768, -32768, -32769, 65535, 65536, GREATEST,
            LEAST};
        for (int form = 0; form < 3; form++) {
            FerretCables x = new FerretCables();
            x.sheet(0, form, 3);
            for (int v : vs) {
                if (form == 2 && v == LEAST) {
                    continue;
                }
                due("lay(0, " + form + ", 1, " + v + ")", x.lay(0, form, 1, v), 1);
                int away = 32 - BITS[form];
                due("it is", x.get(0, form, 1), v << away >> away);
                due("the one ahead", x.get(0, form, 0), 0);
                due("the one behind", x.get(0, form, 2), 0);
            }
        }
        FerretCables x = new FerretCables();
        x.sheet(0, 2, 1);
        x.lay(0, 2, 0, LEAST);
        due("the least int", x.get(0, 2, 0), LEAST);
        due("is no FINDING", x.count(8), 0);
    }

    private static void castOfLay() {
        sentence(34, "3 CAST: it has another FORM");
        for (int s = 0; s < 3; s++) {
            for (int form = 0; form < 3; form++) {
                int sheet = s;
                int f = form;
                if (form == s) {
                    due("lay(" + s + ", " + form + ", 0, 7)", Stage.rich().lay(s, form, 0, 7), 1);
                } else {
                    refused(Stage::rich, "lay(" + s + ", " + form + ", 0, 7)", x -> x.lay(sheet, f, 0, 7), CAST);
                }
            }
        }
    }

    private static void orderOfLay() {
        sentence(34, "BAD; NULL; CAST; INDEX.");
        refused(Stage::rich, "LOST", x -> x.lay(3, 0, 0, 7), NULL);
        refused(Stage::rich, "LOST, no such item", x -> x.lay(3, 2, -1, 7), NULL);
        refused(Stage::rich, "LOST, no such FORM", x -> x.lay(3, 3, 0, 7), BAD);
        refused(Stage::rich, "another FORM, no such item", x -> x.lay(0, 1, 5, 7), CAST);
        refused(Stage::rich, "no such FORM, no such item", x -> x.lay(0, -1, 5, 7), BAD);
        refused(Stage::rich, "no such SHEET, no such item", x -> x.lay(4, 0, 5, 7), BAD);
    }

    private static void itemsOfGet() {
        sentence(35, "Item i of it.");
        FerretCables x = Stage.rich();
        int[][] items = {{0, 1, 1, 2, -1}, {300, 2, 3, -400}, {70000, 6, 5}};
        for (int s = 0; s < 3; s++) {
            for (int i = 0; i < items[s].length; i++) {
                due("get(" + s + ", " + s + ", " + i + ")", x.get(s, s, i), items[s][i]);
            }
        }
        due("no new FINDING", x.count(8), 4);
    }

    private static void badOfGet() {
        sentence(35, "BAD: the least int");
        int[] off = {-1, LEAST, GREATEST};
        for (int n : off) {
            Due.refused(Stage::rich, "get(" + n + ", 0, 0)", x -> x.get(n, 0, 0), LEAST, 0);
            Due.refused(Stage::rich, "get(0, " + n + ", 0)", x -> x.get(0, n, 0), LEAST, 0);
        }
        Due.refused(Stage::rich, "get(4, 0, 0)", x -> x.get(4, 0, 0), LEAST, 0);
        Due.refused(Stage::rich, "get(0, 3, 0)", x -> x.get(0, 3, 0), LEAST, 0);
        Due.refused(FerretCables::new, "get(4, 0, 0) of a new object", x -> x.get(4, 0, 0), LEAST, 0);
    }

    private static void findingsOfGet() {
        sentence(35, "so are NULL, CAST, INDEX (count() 8 tells).");
        int[] sizes = {5, 4, 3};
        for (int s = 0; s < 3; s++) {
            int sheet = s;
            int size = sizes[s];
            for (int i : new int[] {-1, size, 60, LEAST, GREATEST}) {
                Due.refused(Stage::rich, "get(" + s + ", .., " + i + ")", x -> x.get(sheet, sheet, i), LEAST, 2);
            }
            for (int form = 0; form < 3; form++) {
                int f = form;
                Due.refused(Stage::rich, "get(3, " + form + ", 0)", x -> x.get(3, f, 0), LEAST, 1);
                if (form != s) {
                    Due.refused(Stage::rich, "get(" + s + ", " + form + ", 0)", x -> x.get(sheet, f, 0), LEAST, 3);
                }
            }
        }
        Due.refused(() -> {
            FerretCables x = new FerretCables();
            x.sheet(0, 0, 0);
            return x;
        }, "get() of no items", x -> x.get(0, 0, 0), LEAST, 2);
    }

    private static void orderOfGet() {
        sentence(35, "so are NULL, CAST, INDEX");
        Due.refused(Stage::rich, "LOST, no such item", x -> x.get(3, 2, -1), LEAST, 1);
        Due.refused(Stage::rich, "LOST, no such FORM", x -> x.get(3, 3, 0), LEAST, 0);
        Due.refused(Stage::rich, "another FORM, no such item", x -> x.get(0, 1, 5), LEAST, 3);
        Due.refused(Stage::rich, "no such FORM, no such item", x -> x.get(0, -1, 5), LEAST, 0);
    }

    private static void sheetsOfCopy() {
        sentence(36, "BAD: the SHEETS; NULL: s, t; STORE; INDEX: below 0, not so many.");
        for (int n : new int[] {-1, 4, LEAST, GREATEST}) {
            bad("copy(" + n + ", 0, 0, 0, 1)", x -> x.copy(n, 0, 0, 0, 1));
            bad("copy(0, 0, " + n + ", 0, 1)", x -> x.copy(0, 0, n, 0, 1));
            bad("copy(" + n + ", 0, 3, 0, 1), one LOST", x -> x.copy(n, 0, 3, 0, 1));
            bad("copy(3, 0, " + n + ", 0, 1), one LOST", x -> x.copy(3, 0, n, 0, 1));
            bad("copy(" + n + ", -1, 0, 0, 99)", x -> x.copy(n, -1, 0, 0, 99));
        }
    }

    private static void lostOfCopy() {
        sentence(36, "NULL: s, t; STORE");
        refused(Stage::rich, "s is LOST", x -> x.copy(3, 0, 0, 0, 1), NULL);
        refused(Stage::rich, "t is LOST", x -> x.copy(0, 0, 3, 0, 1), NULL);
        refused(Stage::rich, "both are", x -> x.copy(3, 0, 3, 0, 1), NULL);
        refused(Stage::rich, "s is, none of it", x -> x.copy(3, 0, 0, 0, 0), NULL);
        refused(Stage::rich, "s is, below 0", x -> x.copy(3, -1, 0, 0, 1), NULL);
        refused(Stage::rich, "t is, too many", x -> x.copy(0, 0, 3, 0, 99), NULL);
    }

    private static void storeOfCopy() {
        sentence(36, "4 STORE: unlike FORMS");
        for (int s = 0; s < 3; s++) {
            for (int t = 0; t < 3; t++) {
                int one = s;
                int two = t;
                if (s == t) {
                    due("copy(" + s + ", 0, " + t + ", 0, 1)", Stage.rich().copy(s, 0, t, 0, 1), 1);
                    continue;
                }
                refused(Stage::rich, "copy(" + s + ", 0, " + t + ", 0, 1)", x -> x.copy(one, 0, two, 0, 1), STORE);
                refused(Stage::rich, "none of it", x -> x.copy(one, 0, two, 0, 0), STORE);
                refused(Stage::rich, "below 0", x -> x.copy(one, -1, two, 0, 1), STORE);
                refused(Stage::rich, "too many", x -> x.copy(one, 0, two, 0, 61), STORE);
            }
        }
    }

    /** SHEETS 0 and 1 of five and three shorts. */
    private static FerretCables fiveAndThree() {
        FerretCables x = new FerretCables();
        Stage.lay(x, 0, 1, 1, 2, 3, 4, 5);
        Stage.lay(x, 1, 1, 6, 7, 8);
        return x;
    }

    private static void indexOfCopy() {
        sentence(36, "INDEX: below 0, not so many.");
        int[][] wrong = {{0, -1, 1, 0, 1}, {0, 0, 1, -1, 1}, {0, 0, 1, 0, -1}, {0, 5, 1, 0, 1}, {0, 0, 1, 3, 1},
            {0, 0, 1, 0, 4}, {0, 3, 1, 0, 3}, {0, 0, 1, 1, 3}, {1, 0, 0, 0, 4}, {1, 0, 0, 3, 3}, {0, 0, 0, 0, 6},
            {0, 1, 0, 0, 5}, {0, 0, 0, 1, 5}, {0, -1, 1, 0, 0}, {0, 0, 1, -1, 0}, {0, LEAST, 1, 0, 1},
            {0, 0, 1, LEAST, 1}, {0, 0, 1, 0, LEAST}, {0, GREATEST, 1, 0, 1}, {0, 0, 1, GREATEST, 1},
            {0, 0, 1, 0, GREATEST}, {0, GREATEST, 1, GREATEST, GREATEST}, {0, 1, 1, 1, GREATEST},
            {0, 5, 1, 3, LEAST}, {0, LEAST, 1, LEAST, LEAST}, {0, 6, 1, 3, -1}};
        for (int[] c : wrong) {
            String call = "copy(" + c[0] + ", " + c[1] + ", " + c[2] + ", " + c[3] + ", " + c[4] + ")";
            refused(SheetsBounds::fiveAndThree, call, x -> x.copy(c[0], c[1], c[2], c[3], c[4]), INDEX);
        }
    }

    private static void copyOfNone() {
        sentence(36, "n items of SHEET s, from i on, come to SHEET t");
        for (int i = 0; i <= 5; i++) {
            for (int j = 0; j <= 3; j++) {
                FerretCables x = fiveAndThree();
                due("none from " + i + " to " + j, x.copy(0, i, 1, j, 0), 1);
                Due.alike("behind a copy of none", x, fiveAndThree());
            }
        }
        refused(SheetsBounds::fiveAndThree, "none from 6", x -> x.copy(0, 6, 1, 0, 0), INDEX);
        refused(SheetsBounds::fiveAndThree, "none to 4", x -> x.copy(0, 0, 1, 4, 0), INDEX);
        FerretCables x = new FerretCables();
        x.sheet(0, 0, 0);
        due("none of none", x.copy(0, 0, 0, 0, 0), 1);
        due("one of none", x.copy(0, 0, 0, 0, 1), INDEX);
    }

    private static void items(FerretCables x, int s, int form, int... want) {
        for (int i = 0; i < want.length; i++) {
            due("item " + i + " of SHEET " + s, x.get(s, form, i), want[i]);
        }
    }

    private static void copyOfAll() {
        sentence(36, "from i on, come to SHEET t (perhaps s, as they were), from j on: 1.");
        FerretCables x = fiveAndThree();
        due("all of the less", x.copy(0, 2, 1, 0, 3), 1);
        items(x, 1, 1, 3, 4, 5);
        items(x, 0, 1, 1, 2, 3, 4, 5);
        due("to the end", x.copy(1, 0, 0, 2, 3), 1);
        due("the last to the last", x.copy(0, 0, 1, 2, 1), 1);
        items(x, 1, 1, 3, 4, 1);
        x = new FerretCables();
        for (int form = 0; form < 3; form++) {
            x.sheet(0, form, 60);
            x.sheet(3, form, 60);
            x.lay(0, form, 0, -8);
            x.lay(0, form, 59, 9);
            due("sixty", x.copy(0, 0, 3, 0, 60), 1);
            due("the first", x.get(3, form, 0), -8);
            due("the last", x.get(3, form, 59), 9);
            due("sixty-one", x.copy(0, 0, 3, 0, 61), INDEX);
        }
    }

    private static void copyAsTheyWere() {
        sentence(36, "(perhaps s, as they were)");
        FerretCables x = fiveAndThree();
        due("onwards", x.copy(0, 0, 0, 1, 4), 1);
        items(x, 0, 1, 1, 1, 2, 3, 4);
        x = fiveAndThree();
        due("backwards", x.copy(0, 1, 0, 0, 4), 1);
        items(x, 0, 1, 2, 3, 4, 5, 5);
        x = fiveAndThree();
        due("to where they are", x.copy(0, 0, 0, 0, 5), 1);
        items(x, 0, 1, 1, 2, 3, 4, 5);
        x = fiveAndThree();
        due("apart", x.copy(0, 0, 0, 3, 2), 1);
        items(x, 0, 1, 1, 2, 3, 1, 2);
    }

    private static void endsOfWrite() {
        sentence(37, "PIPES of the SHORTEST way from an END to another one come to a SHEET from item 0 on");
        FerretCables x = Stage.row();
        x.sheet(0, 0, 9);
        due("write(0, 7, 0)", x.write(0, 7, 0), 7);
        items(x, 0, 0, 0, 1, 2, 3, 4, 5, 6, 0, 0);
        x.sheet(3, 1, 9);
        due("write(7, 0, 3)", x.write(7, 0, 3), 7);
        items(x, 3, 1, 6, 5, 4, 3, 2, 1, 0, 0, 0);
        for (int n : new int[] {-1, 8, LEAST, GREATEST}) {
            bad("write(" + n + ", 0, 0)", y -> y.write(n, 0, 0));
            bad("write(0, " + n + ", 0)", y -> y.write(0, n, 0));
        }
        for (int n : new int[] {-1, 4, LEAST, GREATEST}) {
            bad("write(0, 3, " + n + ")", y -> y.write(0, 3, n));
        }
    }

    private static void writeOneEndTwice() {
        sentence(37, "BAD: also one END twice; NULL.");
        for (int end = 0; end < 8; end++) {
            int e = end;
            bad("write(" + e + ", " + e + ", 0)", x -> x.write(e, e, 0));
            bad("write(" + e + ", " + e + ", 3), LOST", x -> x.write(e, e, 3));
        }
    }

    private static void lostOfWrite() {
        sentence(37, "one END twice; NULL.");
        refused(Stage::rich, "write(0, 3, 3)", x -> x.write(0, 3, 3), NULL);
        refused(Stage::rich, "write(0, 7, 3), no way", x -> x.write(0, 7, 3), NULL);
        refused(Stage::rich, "write(8, 0, 3)", x -> x.write(8, 0, 3), BAD);
    }

    private static void asManyOfWrite() {
        sentence(37, "as many as there are items and PIPES of it: how many.");
        for (int n = 0; n <= 9; n++) {
            FerretCables x = Stage.row();
            x.sheet(1, 2, n);
            for (int i = 0; i < n; i++) {
                x.lay(1, 2, i, 99);
            }
            due("to " + n + " items", x.write(0, 7, 1), Math.min(n, 7));
            for (int i = 0; i < n; i++) {
                due("item " + i, x.get(1, 2, i), i < 7 ? i : 99);
            }
            due("no FINDING", x.count(8), 0);
            due("its size stays", x.lose(1), n);
        }
        FerretCables x = typed(many("ab10", 15) + ";cd10");
        x.sheet(0, 0, 60);
        due("a way of one PIPE", x.write(2, 3, 0), 1);
        due("the greatest number", x.get(0, 0, 0), 15);
    }

    private static void writeWithoutWay() {
        sentence(37, "as many as there are items and PIPES of it");
        FerretCables x = Stage.rich();
        due("no way", x.write(0, 7, 0), 0);
        Due.alike("behind write() without a way", x, Stage.rich());
        x = new FerretCables();
        x.sheet(0, 0, 3);
        due("no PIPES", x.write(0, 1, 0), 0);
        due("no FINDING", x.count(8), 0);
    }

    private static void writeOfForms() {
        sentence(37, "come to a SHEET from item 0 on");
        for (int form = 0; form < 3; form++) {
            FerretCables x = typed("bc10;ab10");
            x.sheet(2, form, 3);
            x.lay(2, form, 2, 5);
            due("FORM " + form, x.write(0, 2, 2), 2);
            items(x, 2, form, 1, 0, 5);
        }
    }

    private static void numbersOfFindings() {
        sentence(38, "FINDINGS (answers -10 less the number; they change nothing but count() 8)");
        FerretCables x = Stage.rich();
        due("the latest was STORE", x.count(8), 4);
        due("1 NULL", x.lose(3), -11);
        due("count(8)", x.count(8), 1);
        due("2 INDEX", x.lay(0, 0, 5, 0), -12);
        due("count(8)", x.count(8), 2);
        due("3 CAST", x.lay(0, 1, 0, 0), -13);
        due("count(8)", x.count(8), 3);
        due("4 STORE", x.copy(0, 0, 1, 0, 1), -14);
        due("count(8)", x.count(8), 4);
        due("5 SIZE", x.sheet(0, 0, -1), -15);
        due("count(8)", x.count(8), 5);
        due("a good call", x.lay(0, 0, 0, 0), 1);
        due("leaves it", x.count(8), 5);
        Due.alike("behind all FINDINGS", x, Stage.rich());
    }
}
