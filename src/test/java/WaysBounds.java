/** Boundary cases of promises 16 to 22: ways, rust, lamps. */
final class WaysBounds extends Bounds {
    static void all() {
        endsOfShortest();
        placesOfShortest();
        noShortest();
        shortestOneEndTwice();
        leastAndGreatestLength();
        shortestNotThroughFull();
        endsOfMost();
        whatOfMost();
        drawnTillThereIsNoWay();
        drawnByTheLaw();
        mostByAnyWay();
        mostWithWiresThatLie();
        askingDrawsNothing();
        wiresOfFails();
        failsAtHard();
        failsNever();
        dampOfAllPipes();
        soonestOfNone();
        soonestOfLikeDays();
        daysOfLeft();
        leftOnTheDay();
        leftOfWiresThatLie();
        bitsOfBurns();
        burnsWithCurrent();
        burnsFromEndToEnd();
        switchedOff();
        endsOfLit();
        whatOfLit();
        litByNone();
        litByOneAndTwo();
        litByThree();
        litLeastRow();
        litFromTheGreater();
        litAskedBehindOthers();
        litNeedsWays();
        litBehindSixteen();
    }

    private static void endsOfShortest() {
        sentence(16, "SHORTEST: how long (i = NONE), the i-th PIPE (0 on; NONE); NONE. BAD");
        FerretCables x = Stage.row();
        due("shortest(0, 7, NONE)", x.shortest(0, 7, NONE), 7);
        due("shortest(7, 0, NONE)", x.shortest(7, 0, NONE), 7);
        bad("shortest(-1, 0, NONE)", y -> y.shortest(-1, 0, NONE));
        bad("shortest(8, 0, NONE)", y -> y.shortest(8, 0, NONE));
        bad("shortest(0, -1, NONE)", y -> y.shortest(0, -1, NONE));
        bad("shortest(0, 8, NONE)", y -> y.shortest(0, 8, NONE));
        bad("shortest(least, 0, 0)", y -> y.shortest(LEAST, 0, 0));
        bad("shortest(greatest, 0, 0)", y -> y.shortest(GREATEST, 0, 0));
        bad("shortest(0, least, 0)", y -> y.shortest(0, LEAST, 0));
        bad("shortest(0, greatest, 0)", y -> y.shortest(0, GREATEST, 0));
    }

    private static void placesOfShortest() {
        sentence(16, "the i-th PIPE (0 on; NONE)");
        FerretCables x = Stage.row();
        for (int i = 0; i < 7; i++) {
            due("shortest(0, 7, " + i + ")", x.shortest(0, 7, i), i);
            due("shortest(7, 0, " + i + ")", x.shortest(7, 0, i), 6 - i);
        }
        due("behind the last", x.shortest(0, 7, 7), NONE);
        due("behind it", x.shortest(0, 7, 8), NONE);
        due("behind the last of one", x.shortest(0, 1, 1), NONE);
        due("far behind", x.shortest(0, 7, GREATEST), NONE);
        due("i = NONE is how long", x.shortest(0, 7, -1), 7);
        bad("shortest(0, 3, -2)", y -> y.shortest(0, 3, -2));
        bad("shortest(0, 3, least)", y -> y.shortest(0, 3, LEAST));
        bad("shortest(0, 7, -2), no way", y -> y.shortest(0, 7, -2));
    }

    private static void noShortest() {
        sentence(16, "SHORTEST from an END to another one: how long the way is; its i-th PIPE; NONE.");
        FerretCables x = typed("ab10;cd10");
        for (int i = -1; i < 3; i++) {
            due("shortest(0, 2, " + i + ")", x.shortest(0, 2, i), NONE);
            due("of no PIPES", new FerretCables().shortest(0, 1, i), NONE);
        }
        due("an END without PIPES", x.shortest(0, 7, NONE), NONE);
        due("from one", x.shortest(7, 0, NONE), NONE);
    }

    private static void shortestOneEndTwice() {
        sentence(16, "BAD: also one END twice.");
        for (int end = 0; end < 8; end++) {
            int e = end;
            bad("shortest(" + e + ", " + e + ", NONE)", x -> x.shortest(e, e, NONE));
            bad("shortest(" + e + ", " + e + ", 0)", x -> x.shortest(e, e, 0));
        }
    }

    private static void leastAndGreatestLength() {
        sentence(16, "how long the way is");
        due("the least", typed("gh10").shortest(7, 6, NONE), 1);
        FerretCables x = typed("ab90;bc90;cd90;de90;ef90;fg90;gh90");
        due("the greatest", x.shortest(0, 7, NONE), 63);
        due("its last PIPE", x.shortest(0, 7, 6), 6);
        x = typed("hg90;gf90;fe90;ed90;dc90;cb90;ba90;ah90");
        due("the other way round", x.shortest(0, 7, NONE), 9);
    }

    private static void shortestNotThroughFull() {
        sentence(16, "through PIPES that are neither SHUT nor FULL");
        FerretCables x = typed("ab10;ab20;ab30");
        due("the first", x.shortest(0, 1, NONE), 1);
        lets(x, 0, 1, 3);
        due("with one wire too few", x.shortest(0, 1, NONE), 1);
        x.letIn(1, 0);
        due("the first is FULL", x.shortest(0, 1, NONE), 2);
        x.set(0, 2);
        due("and the second is SHUT", x.shortest(0, 1, NONE), 3);
        x.set(0, 6);
        due("and the third", x.shortest(0, 1, NONE), NONE);
        x.pull(3);
        due("the first has room", x.shortest(0, 1, 0), 0);
    }

    private static void endsOfMost() {
        sentence(17, "DRAWN (what = 0), MOST (1). BAD: also one END twice.");
        for (int w = 0; w <= 1; w++) {
            int what = w;
            bad("most(-1, 0, " + w + ")", x -> x.most(-1, 0, what));
            bad("most(8, 0, " + w + ")", x -> x.most(8, 0, what));
            bad("most(0, -1, " + w + ")", x -> x.most(0, -1, what));
            bad("most(0, 8, " + w + ")", x -> x.most(0, 8, what));
            bad("most(least, 0, " + w + ")", x -> x.most(LEAST, 0, what));
            bad("most(0, greatest, " + w + ")", x -> x.most(0, GREATEST, what));
            for (int end = 0; end < 8; end++) {
                int e = end;
                bad("most(" + e + ", " + e + ", " + w + ")", x -> x.most(e, e, what));
            }
            due("most(7, 0, " + w + ")", Stage.row().most(7, 0, w), 4);
            due("most(0, 7, " + w + ")", Stage.row().most(0, 7, w), 4);
        }
    }

    private static void whatOfMost() {
        sentence(17, "DRAWN (what = 0), MOST (1). BAD");
        bad("most(0, 1, -1)", x -> x.most(0, 1, -1));
        bad("most(0, 1, 2)", x -> x.most(0, 1, 2));
        bad("most(0, 1, least)", x -> x.most(0, 1, LEAST));
        bad("most(0, 1, greatest)", x -> x.most(0, 1, GREATEST));
        bad("most(0, 0, 2)", x -> x.most(0, 0, 2));
    }

    private static void drawnTillThereIsNoWay() {
        sentence(17, "till there is no way (as many as that may be)");
        for (int takes = 1; takes <= 4; takes++) {
            FerretCables x = typed(many("ab10", 16));
            x.set(1, takes);
            due("DRAWN, TAKES " + takes, x.most(0, 1, 0), 16 * takes);
            due("MOST, TAKES " + takes, x.most(0, 1, 1), 16 * takes);
            lets(x, 0, 1, 16);
            due("DRAWN behind 16 STEPS", x.most(0, 1, 0), 16 * takes - 16);
            due("MOST behind 16 STEPS", x.most(0, 1, 1), 16 * takes - 16);
        }
        FerretCables x = typed("ab10;cd10");
        due("DRAWN without a way", x.most(0, 2, 0), 0);
        due("MOST without a way", x.most(0, 2, 1), 0);
        due("DRAWN without PIPES", new FerretCables().most(0, 1, 0), 0);
        due("MOST without PIPES", new FerretCables().most(0, 1, 1), 0);
    }

    private static void drawnByTheLaw() {
        sentence(17, "how many wires more can be drawn one by one by LETS-IN from the one to the other");
        // the shortest way goes through all that the two others would need
        FerretCables x = typed("ab10;bc10;cd10;ac30;bd30");
        for (int takes = 1; takes <= 4; takes++) {
            x.set(1, takes);
            due("DRAWN, TAKES " + takes, x.most(0, 3, 0), takes);
            due("MOST, TAKES " + takes, x.most(0, 3, 1), 2 * takes);
        }
        x.set(0, 2);
        due("DRAWN, the middle one SHUT", x.most(0, 3, 0), 8);
    }

    private static void mostByAnyWay() {
        sentence(17, "MOST: how many at most, were each drawn by any way through PIPES that are not SHUT");
        FerretCables x = typed("ab10;bc10;cd10;ac90;bd90");
        due("MOST", x.most(0, 3, 1), 8);
        x.set(0, 8);
        due("one SHUT", x.most(0, 3, 1), 4);
        x.set(0, 24);
        due("both long ones SHUT", x.most(0, 3, 1), 4);
        x.set(0, 25);
        due("no way", x.most(0, 3, 1), 0);
        x.set(0, 0);
        // a wire may go through the middle one in either direction
        x = typed("ab10;ac10;bc10;bd10;bd10;cd10");
        due("from 0", x.most(0, 3, 1), 8);
        due("from 3", x.most(3, 0, 1), 8);
        x = typed("ac10;ac10;ab10;cb10;cd10;bd10;bd10");
        due("two here, two there, one between", x.most(0, 3, 1), 12);
    }

    private static void mostWithWiresThatLie() {
        sentence(17, "(each takes as many as it does, with the wires that lie)");
        FerretCables x = typed("ab10;bc10");
        for (int n = 1; n <= 4; n++) {
            x.letIn(0, 1);
            due("MOST with " + n, x.most(0, 2, 1), 4 - n);
            due("DRAWN with " + n, x.most(0, 2, 0), 4 - n);
            due("MOST beside them", x.most(1, 2, 1), 4);
        }
        x.pull(3);
        due("MOST behind a PULL", x.most(0, 2, 1), 1);
    }

    private static void askingDrawsNothing() {
        sentence(17, "DRAWN from an END to another one");
        FerretCables x = Stage.rich();
        x.most(0, 3, 0);
        x.most(0, 3, 1);
        x.most(1, 2, 0);
        x.shortest(0, 3, 0);
        x.lit(14, 0);
        x.lit(255, 0);
        x.heard(0, 6, NONE);
        x.drowsy(3, 0, 20);
        x.burns(65535);
        x.left(999);
        x.out(0);
        Due.alike("behind calls that ask", x, Stage.rich());
    }

    private static void wiresOfFails() {
        sentence(18, "FAILS; NONE. BAD (0 to 15).");
        FerretCables x = Stage.full();
        due("fails(0)", x.fails(0), 100);
        due("fails(15)", x.fails(15), 100);
        bad("fails(-1)", y -> y.fails(-1));
        bad("fails(16)", y -> y.fails(16));
        bad("fails(32)", y -> y.fails(32));
        bad("fails(least)", y -> y.fails(LEAST));
        bad("fails(greatest)", y -> y.fails(GREATEST));
    }

    private static void failsAtHard() {
        sentence(18, "FAILS: the first day (1 on) in which the sum of DAMP, over all PIPES in which it lies, times the "
                + "days, is HARD (1 to 999; 100 at first) or more");
        for (int damp = 1; damp <= 9; damp++) {
            FerretCables x = typed("ab1" + damp);
            x.letIn(0, 1);
            for (int hard : new int[] {1, 2, 8, 9, 10, 17, 18, 19, 99, 100, 101, 504, 998, 999}) {
                int day = 1;
                while (damp * day < hard) {
                    day++;
                }
                x.set(2, hard);
                due("DAMP " + damp + ", HARD " + hard, x.fails(0), day);
            }
        }
    }

    private static void failsNever() {
        sentence(18, "NONE (it does not lie, or never).");
        FerretCables x = typed("ab10;cd11");
        due("no STEPS", x.fails(0), NONE);
        x.letIn(0, 1);
        x.letIn(2, 3);
        x.letIn(0, 7);
        x.pull(1);
        x.set(2, 1);
        due("never", x.fails(0), NONE);
        due("drawn out", x.fails(1), NONE);
        due("not drawn", x.fails(2), NONE);
        due("a PULL", x.fails(3), NONE);
        due("no such STEP", x.fails(15), NONE);
    }

    private static void dampOfAllPipes() {
        sentence(18, "RUST: a wire that lies in a PIPE rusts there by DAMP a day");
        FerretCables x = typed("ab99;bc99;cd99;de99;ef99;fg99;gh99");
        x.letIn(0, 7);
        x.letIn(0, 1);
        due("63 a day", x.fails(0), 2);
        due("9 a day", x.fails(1), 12);
        x.set(2, 63);
        due("just HARD", x.fails(0), 1);
        x.set(2, 64);
        due("one more", x.fails(0), 2);
        x.set(2, 999);
        due("999", x.fails(0), 16);
        x = typed("ab10;bc11;cd10");
        x.letIn(0, 3);
        due("only one is DAMP", x.fails(0), 100);
    }

    private static void soonestOfNone() {
        sentence(19, "SOONEST; NONE.");
        due("of a new object", new FerretCables().soonest(), NONE);
        FerretCables x = typed("ab10;cd11");
        due("of no wires", x.soonest(), NONE);
        x.letIn(0, 1);
        due("of one that never does", x.soonest(), NONE);
        x.letIn(2, 3);
        due("of one that does", x.soonest(), 1);
        x.set(2, 999);
        due("on day 999", x.soonest(), 1);
        x.pull(1);
        due("of one that was drawn out", x.soonest(), NONE);
    }

    private static void soonestOfLikeDays() {
        sentence(19, "SOONEST: the wire that FAILS first, of like days the least; NONE.");
        due("of sixteen alike", Stage.full().soonest(), 0);
        FerretCables x = typed("ab10;ab17;ab18;ab19;ab16");
        x.set(1, 1);
        lets(x, 0, 1, 5);
        x.set(2, 27);
        due("on day 3 the ninth part", x.soonest(), 3);
        x.set(2, 28);
        due("on day 4, three of them", x.soonest(), 1);
        x.set(2, 1);
        due("on day 1", x.soonest(), 1);
        x.set(2, 9);
        due("on day 1, one of them", x.soonest(), 3);
        x = typed("ab10;cd19");
        lets(x, 0, 1, 15);
        x.letIn(2, 3);
        due("the last wire", x.soonest(), 15);
    }

    private static void daysOfLeft() {
        sentence(20, "LEFT on a day (0 to 999)");
        FerretCables x = typed("ab11;cd10");
        x.set(2, 999);
        x.letIn(0, 1);
        x.letIn(2, 3);
        due("left(0)", x.left(0), 3);
        due("left(998)", x.left(998), 3);
        due("left(999)", x.left(999), 2);
        bad("left(-1)", y -> y.left(-1));
        bad("left(1000)", y -> y.left(1000));
        bad("left(least)", y -> y.left(LEAST));
        bad("left(greatest)", y -> y.left(GREATEST));
    }

    private static void leftOnTheDay() {
        sentence(20, "wires that lie and have not failed by then");
        for (int damp = 1; damp <= 9; damp++) {
            FerretCables x = typed("ab1" + damp);
            x.set(2, 36);
            x.letIn(0, 1);
            int day = (36 + damp - 1) / damp;
            due("the day before", x.left(day - 1), 1);
            due("that day", x.left(day), 0);
            due("the day behind", x.left(day + 1), 0);
        }
        FerretCables x = typed("ab19");
        x.set(2, 1);
        x.letIn(0, 1);
        due("on day 0 none has failed", x.left(0), 1);
        due("on day 1 it has", x.left(1), 0);
    }

    private static void leftOfWiresThatLie() {
        sentence(20, "LEFT, as bits. BAD.");
        due("of none", new FerretCables().left(0), 0);
        due("of sixteen", Stage.full().left(99), 65535);
        due("of sixteen that failed", Stage.full().left(100), 0);
        FerretCables x = Stage.rich();
        due("of two that lie", x.left(0), 9);
        // wire 0 rusts by 7 a day, wire 3 by 4; HARD is 50
        due("left(7)", x.left(7), 9);
        due("left(8)", x.left(8), 8);
        due("left(12)", x.left(12), 8);
        due("left(13)", x.left(13), 0);
    }

    private static void bitsOfBurns() {
        sentence(21, "BURNS, as bits. BAD (off 0 to 65535).");
        FerretCables x = typed("ab10");
        x.letIn(0, 1);
        due("burns(0)", x.burns(0), 3);
        due("burns(65535)", x.burns(65535), 1);
        bad("burns(-1)", y -> y.burns(-1));
        bad("burns(65536)", y -> y.burns(65536));
        bad("burns(least)", y -> y.burns(LEAST));
        bad("burns(greatest)", y -> y.burns(GREATEST));
    }

    private static void burnsWithCurrent() {
        sentence(21, "LAMPS burn at an END to which, by wires that lie, it is joined");
        due("END 0 alone", new FerretCables().burns(0), 1);
        FerretCables x = Stage.row();
        x.letIn(1, 2);
        x.letIn(7, 6);
        due("not joined with END 0", x.burns(0), 1);
        x.letIn(1, 0);
        due("joined, whichever END is told first", x.burns(0), 7);
        x.letIn(0, 7);
        due("END 7, too", x.burns(0), 199);
        x.pull(3);
        due("not by one that was drawn out", x.burns(0), 7);
    }

    private static void burnsFromEndToEnd() {
        sentence(21, "(from END to END of a wire, whatever its PIPES), on and on, with END 0, where the current is");
        FerretCables x = Stage.row();
        x.letIn(0, 7);
        due("its last END alone", x.burns(0), 129);
        x = Stage.row();
        for (int e = 6; e >= 0; e--) {
            x.letIn(e, e + 1);
        }
        due("on and on", x.burns(0), 255);
        for (int w = 0; w < 7; w++) {
            due("broken at wire " + w, x.burns(1 << w), (1 << 7 - w) - 1);
        }
        x = Stage.row();
        for (int e = 0; e < 7; e++) {
            x.letIn(e + 1, e);
        }
        due("on and on, the other way", x.burns(0), 255);
    }

    private static void switchedOff() {
        sentence(21, "BURNS, some wires (bits) being switched off, as bits (END 0, too).");
        FerretCables x = typed(many("ab10", 4));
        lets(x, 0, 1, 16);
        due("all but wire 0", x.burns(65534), 3);
        due("all but wire 15", x.burns(32767), 3);
        due("all", x.burns(65535), 1);
        x.pull(0);
        FerretCables y = typed("ab10");
        y.letIn(0, 1);
        due("wires that are not there", y.burns(65534), 3);
        due("the only one", y.burns(1), 1);
        due("it still lies", y.state(1, 0), 1);
    }

    private static void endsOfLit() {
        sentence(22, "BAD (ends 0 to 255).");
        for (int w = 0; w <= 2; w++) {
            int what = w;
            bad("lit(-1, " + w + ")", x -> x.lit(-1, what));
            bad("lit(256, " + w + ")", x -> x.lit(256, what));
            bad("lit(least, " + w + ")", x -> x.lit(LEAST, what));
            bad("lit(greatest, " + w + ")", x -> x.lit(GREATEST, what));
        }
        litOf(new FerretCables(), 0, 0, NONE, NONE);
        litOf(new FerretCables(), 1, 0, NONE, NONE);
        litOf(new FerretCables(), 255, NONE, NONE, NONE);
        litOf(new FerretCables(), 128, NONE, NONE, NONE);
        litOf(typed("ah10"), 128, 1, 7, NONE);
    }

    private static void whatOfLit() {
        sentence(22, "LIT: how many (what = 0), the first (1; NONE), the second (2; NONE); NONE.");
        bad("lit(2, -1)", x -> x.lit(2, -1));
        bad("lit(2, 3)", x -> x.lit(2, 3));
        bad("lit(2, least)", x -> x.lit(2, LEAST));
        bad("lit(2, greatest)", x -> x.lit(2, GREATEST));
        bad("lit(256, 3)", x -> x.lit(256, 3));
        bad("lit(0, 3)", x -> x.lit(0, 3));
    }

    private static void litOf(FerretCables x, int ends, int needed, int first, int second) {
        due("lit(" + ends + ", 0)", x.lit(ends, 0), needed);
        due("lit(" + ends + ", 1)", x.lit(ends, 1), first);
        due("lit(" + ends + ", 2)", x.lit(ends, 2), second);
    }

    private static void litByNone() {
        sentence(22, "so that all these burn (nothing switched off)");
        FerretCables x = Stage.row();
        for (int e = 0; e < 7; e++) {
            x.letIn(e, e + 1);
        }
        for (int ends : new int[] {0, 1, 2, 128, 254, 255}) {
            litOf(x, ends, 0, NONE, NONE);
        }
    }

    private static void litByOneAndTwo() {
        sentence(22, "the fewest LETS-IN more (0 to 2)");
        FerretCables x = typed("ab10;ac10;ad10");
        litOf(x, 2, 1, 1, NONE);
        litOf(x, 3, 1, 1, NONE);
        litOf(x, 8, 1, 3, NONE);
        litOf(x, 10, 2, 1, 3);
        litOf(x, 12, 2, 2, 3);
        x.letIn(0, 2);
        litOf(x, 4, 0, NONE, NONE);
        litOf(x, 6, 1, 1, NONE);
        litOf(x, 14, 2, 1, 3);
        x.letIn(1, 3);
        litOf(x, 14, 1, 1, NONE);
        x.letIn(3, 2);
        litOf(x, 14, 0, NONE, NONE);
        x = typed("ah10;gh10");
        litOf(x, 192, 2, 6, 7);
        x = Stage.row();
        for (int e = 2; e < 7; e++) {
            x.letIn(e, e + 1);
        }
        litOf(x, 255, 2, 1, 2);
        litOf(x, 253, 1, 2, NONE);
    }

    private static void litByThree() {
        sentence(22, "the fewest LETS-IN more (0 to 2), so that all these burn");
        FerretCables x = typed("ab10;ac10;ad10");
        litOf(x, 14, NONE, NONE, NONE);
        x.letIn(0, 1);
        litOf(x, 14, 2, 2, 3);
        x.letIn(0, 2);
        litOf(x, 14, 1, 3, NONE);
        x.letIn(0, 3);
        litOf(x, 14, 0, NONE, NONE);
        litOf(x, 16, NONE, NONE, NONE);
        litOf(x, 18, NONE, NONE, NONE);
    }

    private static void litLeastRow() {
        sentence(22, "of like ones the least row of 8 times the END from which and the END to which: how many; the "
                + "first; the second; NONE.");
        FerretCables x = typed("ab10;bc10");
        x.set(1, 1);
        // 0 to 1 ahead of 1 to 0; then 0 to 2 has no way, 1 to 2 has
        litOf(x, 6, 2, 1, 10);
        x = typed("cb10;ca90");
        x.set(1, 1);
        // 0 to 1 takes both PIPES up, so 0 to 2 comes first
        litOf(x, 6, 2, 2, 10);
        x = typed("ab10;cd10;bc10");
        x.letIn(2, 3);
        x.letIn(1, 3);
        // any of 0 to 1, 0 to 2, 0 to 3 would do
        litOf(x, 8, 1, 1, NONE);
        x.set(0, 1);
        litOf(x, 8, NONE, NONE, NONE);
        x = typed("ag10;fg10;eh10");
        x.set(1, 1);
        // the greatest: 5 to 6 as the second
        litOf(x, 96, 2, 6, 46);
    }

    /** The way back may be another one of like length, which leaves room for the second. */
    private static void litFromTheGreater() {
        sentence(22, "the least row of 8 times the END from which and the END to which");
        FerretCables x = typed("ef30;eh10;ha30;bh20;be10");
        x.set(1, 1);
        // from 0 to 1 by 2, 1, 4; from 1 to 0 by 3, 2, and then from 1 to 5 by 4, 0
        litOf(x, 34, 2, 8, 13);
        x = typed("gf20;gc10;ag40;ch30;eh10;ge20;ce10");
        x.set(1, 1);
        // from 0 to 7 by 2, 1, 6, 4; from 7 to 0 by 4, 5, 2, and then from 5 to 7 by 0, 1, 3
        litOf(x, 160, 2, 56, 47);
    }

    private static void litAskedBehindOthers() {
        sentence(22, "All that follows is behind all STEPS.");
        FerretCables x = typed("ab10;bc10");
        x.set(1, 1);
        due("DRAWN takes all up, but only to ask", x.most(0, 2, 0), 1);
        litOf(x, 4, 1, 2, NONE);
        due("MOST, too", x.most(0, 2, 1), 1);
        litOf(x, 6, 2, 1, 10);
        due("DRAWN again", x.most(0, 2, 0), 1);
        due("shortest as before", x.shortest(0, 2, NONE), 2);
        due("a LET-IN as before", x.letIn(0, 2), 1);
        due("its PIPES", x.wire(1, 0), 3);
    }

    private static void litNeedsWays() {
        sentence(22, "LIT (bits of ENDS): the fewest LETS-IN more");
        FerretCables x = typed("ab10;ac10");
        x.set(1, 1);
        x.letIn(0, 1);
        x.letIn(0, 2);
        x.pull(1);
        litOf(x, 2, 0, NONE, NONE);
        litOf(x, 4, 1, 2, NONE);
        x.set(0, 2);
        litOf(x, 4, NONE, NONE, NONE);
        x.set(0, 0);
        x = typed("ab10;bc10");
        x.set(1, 1);
        x.letIn(1, 2);
        // END 2 is joined with END 1 already
        litOf(x, 4, 1, 1, NONE);
        // lit() asks for two LETS-IN, of which the second one finds the PIPE FULL
        x = typed("ab10");
        x.set(1, 1);
        litOf(x, 6, NONE, NONE, NONE);
    }

    /** A reading (NOTES.md): LETS-IN more are told, not made, so the 16 STEPS do not bound them. */
    private static void litBehindSixteen() {
        sentence(22, "the fewest LETS-IN more");
        FerretCables x = typed("ab10;ac10");
        for (int i = 0; i < 16; i++) {
            x.pull(0);
        }
        litOf(x, 6, 2, 1, 2);
        due("STEPS", x.count(2), 16);
    }
}
