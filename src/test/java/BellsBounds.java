/** Boundary cases of promises 23 to 31: bells, two that meet, a drowsy one, chalk, SCENES. */
final class BellsBounds extends Bounds {
    static void all() {
        endsOfHeard();
        bellsOfHeard();
        placesOfHeard();
        heardNone();
        notBackAtOnce();
        heardNotThroughShut();
        theMostWays();
        pipesOfMeet();
        secondsOfMeet();
        whatOfMeet();
        whetherTheyMeet();
        fromItsFirstEnd();
        whoBacks();
        endsOfDrowsy();
        pipesOfDrowsy();
        sheStays();
        lotsWrap();
        lotsByNumbers();
        backToo();
        wiresOfChalk();
        endsOfChalk();
        eightMarks();
        liesOfNone();
        liesThatItLies();
        liesOfEnds();
        endsOfScene();
        sixScenes();
        behindStepsOfScenes();
        justTheseBurn();
        endNoughtAnyway();
        scenesOfCue();
        cueIsTheLeast();
        whatOfForget();
        forgetOfAny();
    }

    private static void endsOfHeard() {
        sentence(23, "HEARD: ENDS, as bits (at = NONE), in how many ways she can be at one (0 to 7). BAD.");
        FerretCables x = typed("ah10");
        due("heard(0, 1, NONE)", x.heard(0, 1, NONE), 128);
        due("heard(7, 1, NONE)", x.heard(7, 1, NONE), 1);
        bad("heard(-1, 0, 0)", y -> y.heard(-1, 0, 0));
        bad("heard(8, 0, 0)", y -> y.heard(8, 0, 0));
        bad("heard(least, 0, 0)", y -> y.heard(LEAST, 0, 0));
        bad("heard(greatest, 0, 0)", y -> y.heard(GREATEST, 0, 0));
    }

    private static void bellsOfHeard() {
        sentence(23, "HEARD: so many bells since she was let in at a told END (0 to 6)");
        FerretCables x = Stage.row();
        for (int bells = 0; bells <= 6; bells++) {
            due("heard(0, " + bells + ", NONE)", x.heard(0, bells, NONE), 1 << bells);
            due("heard(7, " + bells + ", NONE)", x.heard(7, bells, NONE), 128 >> bells);
        }
        bad("heard(0, -1, 0)", y -> y.heard(0, -1, 0));
        bad("heard(0, 7, 0)", y -> y.heard(0, 7, 0));
        bad("heard(0, -1, NONE)", y -> y.heard(0, -1, NONE));
        bad("heard(0, 7, NONE)", y -> y.heard(0, 7, NONE));
        bad("heard(0, least, 0)", y -> y.heard(0, LEAST, 0));
        bad("heard(0, greatest, 0)", y -> y.heard(0, GREATEST, 0));
    }

    private static void placesOfHeard() {
        sentence(23, "in how many ways she can be at one (0 to 7)");
        FerretCables x = typed("ha10;ah20");
        due("heard(0, 1, 7)", x.heard(0, 1, 7), 2);
        due("heard(7, 1, 0)", x.heard(7, 1, 0), 2);
        due("heard(0, 1, 0)", x.heard(0, 1, 0), 0);
        bad("heard(0, 1, -2)", y -> y.heard(0, 1, -2));
        bad("heard(0, 1, 8)", y -> y.heard(0, 1, 8));
        bad("heard(0, 1, least)", y -> y.heard(0, 1, LEAST));
        bad("heard(0, 1, greatest)", y -> y.heard(0, 1, GREATEST));
    }

    private static void heardNone() {
        sentence(23, "a ferret that goes along rings once at the end of each PIPE that it went through");
        FerretCables x = new FerretCables();
        for (int e = 0; e < 8; e++) {
            due("no bells at " + e, x.heard(e, 0, NONE), 1 << e);
            due("one way to be at " + e, x.heard(e, 0, e), 1);
            due("none to be elsewhere", x.heard(e, 0, (e + 1) % 8), 0);
            due("a bell without PIPES", x.heard(e, 1, NONE), 0);
        }
        x = typed("ab90");
        due("once, however long it is", x.heard(0, 1, NONE), 2);
    }

    private static void notBackAtOnce() {
        sentence(23, "not back at once through the same one");
        FerretCables x = typed("ab10");
        due("to the other END", x.heard(0, 1, 1), 1);
        due("and not back", x.heard(0, 2, NONE), 0);
        x = typed("ab10;ab10");
        due("back through another one", x.heard(0, 2, 0), 2);
        due("and on", x.heard(0, 3, 1), 2);
        due("and on", x.heard(0, 6, 0), 2);
        x = typed("ab10;bc10;ca10");
        due("round, either way", x.heard(0, 3, 0), 2);
        due("through the same one, but not at once", x.heard(0, 4, 1), 1);
        due("all ENDS at which she can be", x.heard(0, 4, NONE), 6);
        due("twice round", x.heard(0, 6, NONE), 1);
        x = typed("ab10;bc10;cd10;db10");
        // to 1, round 2 and 3, and back to 0 through the first PIPE
        due("back, but later", x.heard(0, 5, 0), 2);
    }

    private static void heardNotThroughShut() {
        sentence(23, "from END to END through any PIPES that are not SHUT");
        FerretCables x = typed("ab10;ab10;bc10");
        x.set(0, 4);
        due("one SHUT", x.heard(0, 2, NONE), 1);
        x.set(0, 3);
        due("two SHUT", x.heard(0, 1, NONE), 0);
        due("without bells she is there", x.heard(0, 0, NONE), 1);
        x.set(0, 0);
        x.set(1, 1);
        lets(x, 0, 1, 2);
        due("FULL ones are gone through", x.heard(0, 1, 1), 2);
    }

    private static void theMostWays() {
        sentence(23, "ENDS at which she can be, as bits; in how many ways she can be at one.");
        FerretCables x = typed(many("ab10", 16));
        int ways = 16;
        for (int bells = 1; bells <= 6; bells++) {
            due("heard(0, " + bells + ", ..)", x.heard(0, bells, bells % 2), ways);
            due("not at the other END", x.heard(0, bells, 1 - bells % 2), 0);
            due("as bits", x.heard(0, bells, NONE), 1 << bells % 2);
            ways *= 15;
        }
    }

    private static void pipesOfMeet() {
        sentence(24, "MEET: where (what = 0), who backs (1); NONE. BAD.");
        FerretCables x = typed(many("ab10", 15) + ";ab90");
        due("meet(0, 0, 0, 0)", x.meet(0, 0, 0, 0), 1);
        due("meet(15, 0, 0, 0)", x.meet(15, 0, 0, 0), 9);
        for (int w = 0; w <= 1; w++) {
            int what = w;
            bad("meet(-1, 0, 0, " + w + ")", y -> y.meet(-1, 0, 0, what));
            bad("meet(6, 0, 0, " + w + ")", y -> y.meet(6, 0, 0, what));
            bad("meet(least, 0, 0, " + w + ")", y -> y.meet(LEAST, 0, 0, what));
            bad("meet(greatest, 0, 0, " + w + ")", y -> y.meet(GREATEST, 0, 0, what));
            refused(Stage::full, "meet(16, 0, 0, " + w + ")", y -> y.meet(16, 0, 0, what), BAD);
            refused(FerretCables::new, "meet(0, 0, 0, " + w + ") of none", y -> y.meet(0, 0, 0, what), BAD);
            refused(() -> typed("ab10;"), "meet(0, ..) with a FAULT", y -> y.meet(0, 0, 0, what), BAD);
        }
    }

    private static void secondsOfMeet() {
        sentence(24, "at two SECONDS (0 to 999)");
        FerretCables x = typed("ab90");
        due("meet(0, 0, 0, 0)", x.meet(0, 0, 0, 0), 9);
        due("meet(0, 999, 999, 0)", x.meet(0, 999, 999, 0), 9);
        due("meet(0, 999, 998, 0)", x.meet(0, 999, 998, 0), 8);
        due("meet(0, 998, 999, 0)", x.meet(0, 998, 999, 0), 10);
        due("meet(0, 0, 999, 0)", x.meet(0, 0, 999, 0), NONE);
        due("meet(0, 999, 0, 0)", x.meet(0, 999, 0, 0), NONE);
        for (int w = 0; w <= 1; w++) {
            int what = w;
            bad("meet(4, -1, 0, " + w + ")", y -> y.meet(4, -1, 0, what));
            bad("meet(4, 0, -1, " + w + ")", y -> y.meet(4, 0, -1, what));
            bad("meet(4, 1000, 999, " + w + ")", y -> y.meet(4, 1000, 999, what));
            bad("meet(4, 999, 1000, " + w + ")", y -> y.meet(4, 999, 1000, what));
            bad("meet(4, least, least, " + w + ")", y -> y.meet(4, LEAST, LEAST, what));
            bad("meet(4, greatest, greatest, " + w + ")", y -> y.meet(4, GREATEST, GREATEST, what));
            bad("meet(4, least, greatest, " + w + ")", y -> y.meet(4, LEAST, GREATEST, what));
            bad("meet(4, 0, 1000, " + w + "), who do not meet", y -> y.meet(4, 0, 1000, what));
        }
    }

    private static void whatOfMeet() {
        sentence(24, "where (what = 0), who backs (1)");
        bad("meet(4, 0, 0, -1)", x -> x.meet(4, 0, 0, -1));
        bad("meet(4, 0, 0, 2)", x -> x.meet(4, 0, 0, 2));
        bad("meet(4, 0, 0, least)", x -> x.meet(4, 0, 0, LEAST));
        bad("meet(4, 0, 0, greatest)", x -> x.meet(4, 0, 0, GREATEST));
        bad("meet(4, 0, 999, 2), who do not meet", x -> x.meet(4, 0, 999, 2));
    }

    private static void whetherTheyMeet() {
        sentence(24, "where they meet, in halves of a part from its first END on; NONE: they do not (the one is out when "
                + "the other comes in, or as it does)");
        for (int length = 1; length <= 9; length++) {
            FerretCables x = typed("ba" + length + "0");
            for (int later = -length - 1; later <= length + 1; later++) {
                boolean meet = later > -length && later < length;
                String call = length + " long, the second later by " + later;
                due(call, x.meet(0, 500, 500 + later, 0), meet ? length + later : NONE);
                due(call + ": who", x.meet(0, 500, 500 + later, 1), meet ? (later > 0 ? 1 : 0) : NONE);
            }
        }
    }

    private static void fromItsFirstEnd() {
        sentence(24, "MEET: two go into one PIPE, from its first END (as told) and from its second END, at two SECONDS "
                + "(0 to 999), one part of its length in each SECOND");
        // from the first END as told, not from the lesser one
        for (String text : new String[] {"ab50", "ba50", "hc50"}) {
            FerretCables x = typed(text);
            due("the first is in for 4 SECONDS and a half", x.meet(0, 0, 4, 0), 9);
            due("the first is in for half a SECOND", x.meet(0, 4, 0, 0), 1);
            due("both are in for 2 SECONDS and a half", x.meet(0, 7, 7, 0), 5);
            x.set(1, 1);
            lets(x, x.pipe(0, 0), x.pipe(0, 1), 1);
            due("it is FULL", x.meet(0, 0, 4, 0), 9);
        }
    }

    private static void whoBacks() {
        sentence(24, "who backs: the one that has gone less (0 the first, of like ones that; 1 the second).");
        FerretCables x = typed("ab80");
        due("alike", x.meet(0, 3, 3, 1), 0);
        due("the first came later", x.meet(0, 4, 3, 1), 0);
        due("the second came later", x.meet(0, 3, 4, 1), 1);
        due("the first, at the last SECOND", x.meet(0, 10, 3, 1), 0);
        due("the second, at the last SECOND", x.meet(0, 3, 10, 1), 1);
        due("too late", x.meet(0, 3, 11, 1), NONE);
        due("too late", x.meet(0, 11, 3, 1), NONE);
    }

    private static void endsOfDrowsy() {
        sentence(25, "DROWSY by a SEED: a ferret let in at an END");
        FerretCables x = typed("ah10");
        due("drowsy(0, 0, 1)", x.drowsy(0, 0, 1), 7);
        due("drowsy(0, 7, 1)", x.drowsy(0, 7, 1), 0);
        bad("drowsy(0, -1, 0)", y -> y.drowsy(0, -1, 0));
        bad("drowsy(0, 8, 0)", y -> y.drowsy(0, 8, 0));
        bad("drowsy(0, least, 0)", y -> y.drowsy(0, LEAST, 0));
        bad("drowsy(0, greatest, 0)", y -> y.drowsy(0, GREATEST, 0));
    }

    private static void pipesOfDrowsy() {
        sentence(25, "DROWSY. BAD.");
        due("seeds are all well", typed("ab10").drowsy(LEAST, 0, 1), 1);
        due("seeds are all well", typed("ab10").drowsy(GREATEST, 0, 1), 1);
        sentence(25, "goes n (0 to 20) PIPES");
        FerretCables x = typed("ab10");
        for (int n = 0; n <= 20; n++) {
            due("drowsy(5, 0, " + n + ")", x.drowsy(5, 0, n), n % 2);
        }
        bad("drowsy(5, 0, -1)", y -> y.drowsy(5, 0, -1));
        bad("drowsy(5, 0, 21)", y -> y.drowsy(5, 0, 21));
        bad("drowsy(5, 0, least)", y -> y.drowsy(5, 0, LEAST));
        bad("drowsy(5, 0, greatest)", y -> y.drowsy(5, 0, GREATEST));
        bad("drowsy(5, 7, 21), who would stay", y -> y.drowsy(5, 7, 21));
    }

    private static void sheStays() {
        sentence(25, "NONE of these: she stays: the END.");
        FerretCables x = typed("ab10");
        for (int e = 2; e < 8; e++) {
            due("drowsy(9, " + e + ", 20)", x.drowsy(9, e, 20), e);
            due("drowsy(9, " + e + ", 0)", x.drowsy(9, e, 0), e);
        }
        x.set(0, 1);
        due("all SHUT", x.drowsy(9, 0, 20), 0);
        due("all SHUT", x.drowsy(9, 1, 20), 1);
        due("without PIPES", new FerretCables().drowsy(9, 3, 20), 3);
    }

    /** The LOTS once more, by longs: the SEED behind n of them. */
    private static long seedBehind(int seed, int n) {
        long s = seed & 0xffffffffL;
        for (int i = 0; i < n; i++) {
            s = (1103515245L * s + 12345L) % 4294967296L;
        }
        return s;
    }

    private static void lotsWrap() {
        sentence(25, "LOTS of m: SEED becomes 1103515245 SEED and 12345, as ints that wrap; its upper 16 bits as a "
                + "number from 0 on, modulo m.");
        FerretCables x = typed("ab10;ac10;ad10;ae10;af10;ag10;ah10");
        for (int seed : new int[] {0, 1, 2, 3, -1, -2, 65535, 65536, LEAST, LEAST + 1, GREATEST, GREATEST - 1}) {
            due("drowsy(" + seed + ", 0, 1)", x.drowsy(seed, 0, 1), 1 + (seedBehind(seed, 1) >> 16) % 7);
            due("drowsy(" + seed + ", 0, 19)", x.drowsy(seed, 0, 19), 1 + (seedBehind(seed, 19) >> 16) % 7);
        }
        // 2 times 1103515245 and 12345 is 2207042835: below 0 as an int, its upper bits are 33676
        due("upper bits above 32767", x.drowsy(2, 0, 1), 1 + 33676 % 7);
        x = typed(many("ab10", 15) + ";ac10");
        due("modulo 16, the last one", x.drowsy(2, 0, 1), 33676 % 16 == 15 ? 2 : 1);
        for (int seed = 0; seed < 64; seed++) {
            due("modulo 16", x.drowsy(seed, 0, 1), (seedBehind(seed, 1) >> 16) % 16 == 15 ? 2 : 1);
        }
    }

    private static void lotsByNumbers() {
        sentence(25, "each by a LOT of all that are not SHUT at the END where she is, by numbers");
        FerretCables x = typed("bh10;ab10;ca10;gh10;ad10;ea10");
        int[] behind = {1, 2, 3, 4};
        for (int seed = 0; seed < 40; seed++) {
            due("of four", x.drowsy(seed, 0, 1), behind[(int) ((seedBehind(seed, 1) >> 16) % 4)]);
        }
        x.set(0, 4);
        int[] left = {1, 3, 4};
        for (int seed = 0; seed < 40; seed++) {
            due("of three, one being SHUT", x.drowsy(seed, 0, 1), left[(int) ((seedBehind(seed, 1) >> 16) % 3)]);
        }
        x.set(0, 0);
        x.set(1, 1);
        x.letIn(0, 1);
        for (int seed = 0; seed < 40; seed++) {
            due("of four, one being FULL", x.drowsy(seed, 0, 1), behind[(int) ((seedBehind(seed, 1) >> 16) % 4)]);
        }
    }

    private static void backToo() {
        sentence(25, "(back, too)");
        FerretCables x = typed("ab10;bc10");
        for (int seed = 0; seed < 40; seed++) {
            // at END 0 there is only one, but it takes a LOT, too
            due("drowsy(" + seed + ", 0, 2)", x.drowsy(seed, 0, 2), (seedBehind(seed, 2) >> 16) % 2 * 2);
        }
    }

    private static void wiresOfChalk() {
        sentence(26, "each says of a wire (0 to 15) that it lies, and joins two ENDS");
        FerretCables x = new FerretCables();
        due("chalk(0, 0, 1)", x.chalk(0, 0, 1), 1);
        due("chalk(15, 0, 1)", x.chalk(15, 0, 1), 2);
        bad("chalk(-1, 0, 1)", y -> y.chalk(-1, 0, 1));
        bad("chalk(16, 0, 1)", y -> y.chalk(16, 0, 1));
        bad("chalk(least, 0, 1)", y -> y.chalk(LEAST, 0, 1));
        bad("chalk(greatest, 0, 1)", y -> y.chalk(GREATEST, 0, 1));
    }

    private static void endsOfChalk() {
        sentence(26, "A mark more: how many. BAD: also one END twice; FULL.");
        FerretCables x = new FerretCables();
        due("chalk(3, 0, 7)", x.chalk(3, 0, 7), 1);
        due("chalk(3, 7, 0)", x.chalk(3, 7, 0), 2);
        due("the same once more", x.chalk(3, 7, 0), 3);
        for (int end = 0; end < 8; end++) {
            int e = end;
            bad("chalk(3, " + e + ", " + e + ")", y -> y.chalk(3, e, e));
        }
        bad("chalk(3, -1, 0)", y -> y.chalk(3, -1, 0));
        bad("chalk(3, 8, 0)", y -> y.chalk(3, 8, 0));
        bad("chalk(3, 0, -1)", y -> y.chalk(3, 0, -1));
        bad("chalk(3, 0, 8)", y -> y.chalk(3, 0, 8));
        bad("chalk(3, least, 0)", y -> y.chalk(3, LEAST, 0));
        bad("chalk(3, 0, greatest)", y -> y.chalk(3, 0, GREATEST));
    }

    private static void eightMarks() {
        sentence(26, "CHALK, 8 marks at most");
        FerretCables x = new FerretCables();
        for (int n = 1; n <= 8; n++) {
            due("chalk(1, 2, 3)", x.chalk(1, 2, 3), n);
            due("marks", x.count(5), n);
        }
        refused(Stage::full, "a ninth", y -> y.chalk(0, 0, 1), FULL);
        refused(Stage::full, "a ninth of wire 15", y -> y.chalk(15, 7, 6), FULL);
        refused(Stage::full, "a ninth of wire 16", y -> y.chalk(16, 0, 1), BAD);
        refused(Stage::full, "a ninth of one END", y -> y.chalk(0, 1, 1), BAD);
        x.forget(0);
        due("room again", x.chalk(1, 2, 3), 1);
    }

    private static void liesOfNone() {
        sentence(27, "LIES, as bits.");
        due("of a new object", new FerretCables().lies(), 0);
        sentence(27, "LIES: marks that are not so, as bits.");
        due("of no marks", new FerretCables().lies(), 0);
        FerretCables x = Stage.full();
        // each second mark says END 2
        due("of eight, every second one", x.lies(), 0xaa);
        x.wipe();
        due("of eight, all", x.lies(), 255);
        x.forget(0);
        due("forgotten", x.lies(), 0);
    }

    private static void liesThatItLies() {
        sentence(27, "that it lies");
        FerretCables x = typed("ab10");
        x.chalk(0, 0, 1);
        due("not as yet", x.lies(), 1);
        x.letIn(0, 1);
        due("it lies", x.lies(), 0);
        x.pull(0);
        due("it was drawn out", x.lies(), 1);
        x.back();
        x.chalk(15, 0, 1);
        due("wire 15 does not", x.lies(), 2);
        x.set(0, 1);
        due("through a SHUT one it does not", x.lies(), 3);
        x = typed(many("ab10", 4));
        lets(x, 0, 1, 16);
        x.chalk(15, 0, 1);
        due("wire 15 does", x.lies(), 0);
    }

    private static void liesOfEnds() {
        sentence(27, "and joins two ENDS");
        FerretCables x = Stage.row();
        x.letIn(0, 7);
        for (int a = 0; a < 8; a++) {
            for (int b = 0; b < 8; b++) {
                if (a != b) {
                    x.chalk(0, a, b);
                    boolean so = a + b == 7 && (a == 0 || b == 0);
                    due("chalk(0, " + a + ", " + b + ")", x.lies(), so ? 0 : 1);
                    x.forget(0);
                }
            }
        }
    }

    private static void endsOfScene() {
        sentence(28, "A SCENE more (0 to 255): how many. BAD; FULL.");
        FerretCables x = new FerretCables();
        due("scene(0)", x.scene(0), 1);
        due("scene(255)", x.scene(255), 2);
        bad("scene(-1)", y -> y.scene(-1));
        bad("scene(256)", y -> y.scene(256));
        bad("scene(least)", y -> y.scene(LEAST));
        bad("scene(greatest)", y -> y.scene(GREATEST));
    }

    private static void sixScenes() {
        sentence(28, "SCENES, 6 at most");
        FerretCables x = new FerretCables();
        for (int n = 1; n <= 6; n++) {
            due("scene(9)", x.scene(9), n);
            due("SCENES", x.count(6), n);
        }
        refused(Stage::full, "a seventh, 0", y -> y.scene(0), FULL);
        refused(Stage::full, "a seventh, 255", y -> y.scene(255), FULL);
        refused(Stage::full, "a seventh, 256", y -> y.scene(256), BAD);
        refused(Stage::full, "a seventh, -1", y -> y.scene(-1), BAD);
        x.forget(1);
        due("room again", x.scene(9), 1);
    }

    private static void behindStepsOfScenes() {
        sentence(29, "SCENES that are so behind k STEPS, as bits. BAD.");
        due("of none", new FerretCables().scenes(0), 0);
        FerretCables x = typed("ab10");
        for (int i = 0; i < 6; i++) {
            x.scene(3);
        }
        x.letIn(0, 1);
        due("behind none", x.scenes(0), 0);
        due("behind all", x.scenes(1), 63);
        bad("scenes(-1)", y -> y.scenes(-1));
        bad("scenes(6)", y -> y.scenes(6));
        bad("scenes(least)", y -> y.scenes(LEAST));
        bad("scenes(greatest)", y -> y.scenes(GREATEST));
        refused(Stage::full, "scenes(17)", y -> y.scenes(17), BAD);
        refused(FerretCables::new, "scenes(1) of no STEPS", y -> y.scenes(1), BAD);
        // SCENES 2 and 3 are ENDS 0 and 1
        due("scenes(16)", Stage.full().scenes(16), 12);
    }

    private static void justTheseBurn() {
        sentence(29, "those that are so behind k STEPS (just these burn), as bits");
        FerretCables x = Stage.row();
        x.letIn(0, 1);
        x.letIn(1, 2);
        x.scene(3);
        x.scene(7);
        x.scene(5);
        x.scene(15);
        x.scene(255);
        due("behind none", x.scenes(0), 0);
        due("behind one", x.scenes(1), 1);
        due("behind two", x.scenes(2), 2);
        x.pull(0);
        due("without END 1", x.scenes(3), 0);
        x.letIn(0, 7);
        for (int e = 2; e < 7; e++) {
            x.letIn(e, e + 1);
        }
        due("all", x.scenes(x.count(2)), 16);
    }

    private static void endNoughtAnyway() {
        sentence(29, "ENDS (bits) that should burn (END 0 does anyway)");
        FerretCables x = typed("ab10");
        x.scene(0);
        x.scene(1);
        x.scene(2);
        x.scene(3);
        x.letIn(0, 1);
        due("behind none", x.scenes(0), 3);
        due("behind one", x.scenes(1), 12);
        due("cue(0)", x.cue(0), 0);
        due("cue(2)", x.cue(2), 1);
    }

    private static void scenesOfCue() {
        sentence(30, "CUE; NONE. BAD.");
        for (int n : new int[] {-1, 3, LEAST, GREATEST}) {
            bad("cue(" + n + ")", x -> x.cue(n));
        }
        refused(FerretCables::new, "cue(0) of none", x -> x.cue(0), BAD);
        refused(Stage::full, "cue(6)", x -> x.cue(6), BAD);
        FerretCables x = Stage.rich();
        due("cue(0)", x.cue(0), 1);
        due("cue(1)", x.cue(1), 0);
        due("cue(2)", x.cue(2), NONE);
        x = Stage.full();
        due("cue(5) of six", x.cue(5), NONE);
        due("cue(3) of six", x.cue(3), 1);
        x.forget(1);
        due("forgotten", x.cue(0), BAD);
    }

    private static void cueIsTheLeast() {
        sentence(30, "CUE: the least k behind which a SCENE is so; NONE.");
        FerretCables x = typed("ab10;ac10");
        x.scene(1);
        x.scene(3);
        x.scene(5);
        x.letIn(0, 1);
        x.pull(0);
        x.letIn(0, 1);
        due("behind no STEPS, though later, too", x.cue(0), 0);
        due("behind one, though behind three, too", x.cue(1), 1);
        due("never", x.cue(2), NONE);
        x.pull(2);
        x.letIn(0, 2);
        due("behind all", x.cue(2), 5);
        for (int i = 5; i < 15; i++) {
            x.pull(0);
        }
        x.letIn(0, 1);
        x.scene(7);
        due("behind sixteen", x.cue(3), 16);
        due("no SCENES but these", x.cue(4), BAD);
    }

    private static void whatOfForget() {
        sentence(31, "All marks (what = 0), SCENES (1) are forgotten: how many. BAD.");
        bad("forget(-1)", x -> x.forget(-1));
        bad("forget(2)", x -> x.forget(2));
        bad("forget(least)", x -> x.forget(LEAST));
        bad("forget(greatest)", x -> x.forget(GREATEST));
    }

    private static void forgetOfAny() {
        sentence(31, "All marks (what = 0), SCENES (1) are forgotten: how many.");
        FerretCables x = new FerretCables();
        due("no marks", x.forget(0), 0);
        due("no SCENES", x.forget(1), 0);
        x = Stage.full();
        due("eight marks", x.forget(0), 8);
        due("marks", x.count(5), 0);
        due("SCENES stay", x.count(6), 6);
        due("six SCENES", x.forget(1), 6);
        due("SCENES", x.count(6), 0);
        due("again", x.forget(0), 0);
        due("again", x.forget(1), 0);
        x.chalk(0, 0, 2);
        due("a new mark", x.lies(), 1);
        x = Stage.full();
        due("SCENES first", x.forget(1), 6);
        due("marks stay", x.count(5), 8);
        x.scene(3);
        due("a new SCENE", x.scenes(16), 1);
    }
}
