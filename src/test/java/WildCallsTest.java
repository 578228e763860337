import java.util.Random;

/** Rule 7: no call throws or fails to end, whatever its arguments, in whatever state. */
public final class WildCallsTest {
    private static final int[] EDGES = {Integer.MIN_VALUE, Integer.MIN_VALUE + 1, -65536, -61, -2, -1, 0, 1, 2, 3,
        4, 5, 6, 7, 8, 9, 15, 16, 17, 20, 21, 31, 32, 33, 59, 60, 61, 63, 64, 97, 98, 255, 256, 999, 1000, 65535,
        65536, Integer.MAX_VALUE - 1, Integer.MAX_VALUE};

    private static int calls = 0;

    private static int any(Random lots) {
        return lots.nextInt(6) == 0 ? lots.nextInt() : EDGES[lots.nextInt(EDGES.length)];
    }

    private static void call(FerretCables x, Random lots, int which) {
        int a = any(lots);
        int b = any(lots);
        int c = any(lots);
        int d = any(lots);
        switch (which) {
            case 0: x.type(a); break;
            case 1: x.wipe(); break;
            case 2: x.undo(); break;
            case 3: x.fault(); break;
            case 4: x.pipe(a, b); break;
            case 5: x.set(a, b); break;
            case 6: x.letIn(a, b); break;
            case 7: x.pull(a); break;
            case 8: x.back(); break;
            case 9: x.read(a); break;
            case 10: x.judged(); break;
            case 11: x.state(a, b); break;
            case 12: x.wire(a, b); break;
            case 13: x.out(a); break;
            case 14: x.shortest(a, b, c); break;
            case 15: x.most(a, b, c); break;
            case 16: x.fails(a); break;
            case 17: x.soonest(); break;
            case 18: x.left(a); break;
            case 19: x.burns(a); break;
            case 20: x.lit(a, b); break;
            case 21: x.heard(a, b, c); break;
            case 22: x.meet(a, b, c, d); break;
            case 23: x.drowsy(a, b, c); break;
            case 24: x.chalk(a, b, c); break;
            case 25: x.lies(); break;
            case 26: x.scene(a); break;
            case 27: x.scenes(a); break;
            case 28: x.cue(a); break;
            case 29: x.forget(a); break;
            case 30: x.sheet(a, b, c); break;
            case 31: x.lose(a); break;
            case 32: x.lay(a, b, c, d); break;
            case 33: x.get(a, b, c); break;
            case 34: x.copy(a, b, c, d, any(lots)); break;
            case 35: x.write(a, b, c); break;
            case 36: x.count(a); break;
            default: x.digest();
        }
        calls++;
    }

    private static void typePipes(FerretCables x, Random lots) {
        int n = lots.nextInt(17);
        for (int i = 0; i < n; i++) {
            int a = lots.nextInt(8);
            x.type(i == 0 ? 'a' + a : ';');
            if (i > 0) {
                x.type('a' + a);
            }
            x.type('a' + (a + 1 + lots.nextInt(7)) % 8);
            x.type('1' + lots.nextInt(9));
            x.type('0' + lots.nextInt(10));
        }
    }

    public static void main(String[] args) {
        for (int seed = 0; seed < 1000; seed++) {
            Random lots = new Random(seed);
            FerretCables x = new FerretCables();
            typePipes(x, lots);
            // text bytes and wipes are rare, or there would hardly ever be PIPES
            int from = seed % 3 == 0 ? 0 : 3;
            for (int i = 0; i < 400; i++) {
                call(x, lots, from + lots.nextInt(38 - from));
            }
        }
        System.out.println("WildCallsTest: " + calls + " calls, none threw");
    }
}
