import java.util.ArrayList;
import java.util.List;

/** Objects in told states, for the tests of boundary cases, and all that can be seen of one. */
final class Stage {
    private Stage() { }

    static FerretCables typed(String text) {
        FerretCables x = new FerretCables();
        typeOn(x, text);
        return x;
    }

    static void typeOn(FerretCables x, String text) {
        for (int i = 0; i < text.length(); i++) {
            x.type(text.charAt(i));
        }
    }

    /** The same PIPE so many times. */
    static String many(String pipe, int n) {
        StringBuilder b = new StringBuilder(pipe);
        for (int i = 1; i < n; i++) {
            b.append(';').append(pipe);
        }
        return b.toString();
    }

    /** A row of ENDS, a to h, each PIPE 1 long. */
    static FerretCables row() {
        return typed("ab10;bc10;cd10;de10;ef10;fg10;gh10");
    }

    static void lets(FerretCables x, int from, int to, int n) {
        for (int i = 0; i < n; i++) {
            x.letIn(from, to);
        }
    }

    static void lay(FerretCables x, int s, int form, int... items) {
        x.sheet(s, form, items.length);
        for (int i = 0; i < items.length; i++) {
            x.lay(s, form, i, items[i]);
        }
    }

    /** Something of everything, and room for more; SHEET 3 is LOST, and the latest FINDING is STORE. */
    static FerretCables rich() {
        FerretCables x = typed("ab12;bc23;ac45;cd11;ad90;bc14");
        x.set(0, 2);
        x.set(1, 2);
        x.set(2, 50);
        x.letIn(0, 3);
        x.letIn(3, 1);
        x.pull(1);
        x.letIn(1, 2);
        x.letIn(0, 7);
        x.chalk(0, 0, 3);
        x.chalk(3, 1, 3);
        x.chalk(5, 0, 1);
        x.scene(8);
        x.scene(0);
        x.scene(255);
        lay(x, 0, 0, 0, 1, 1, 2, -1);
        lay(x, 1, 1, 300, 2, 3, -400);
        lay(x, 2, 2, 70000, 6, 5);
        x.copy(0, 0, 1, 0, 1);
        return x;
    }

    /** As much of everything as there can be. */
    static FerretCables full() {
        FerretCables x = typed(many("ab11", 16));
        lets(x, 0, 1, 16);
        for (int i = 0; i < 8; i++) {
            x.chalk(i, 0, 1 + i % 2);
        }
        for (int i = 0; i < 6; i++) {
            x.scene(i);
        }
        return x;
    }

    /** All that can be seen, in a row; what is seen only by calls that change something comes last. */
    static List<String> seen(FerretCables x) {
        List<String> seen = new ArrayList<>();
        for (int what = 0; what <= 7; what++) {
            seen.add("count(" + what + ") is " + x.count(what));
        }
        seen.add("fault() is " + x.fault());
        for (int k = 0; k <= x.count(2); k++) {
            seen.add("state(" + k + ", 0) is " + x.state(k, 0));
            seen.add("state(" + k + ", 1) is " + x.state(k, 1));
            seen.add("scenes(" + k + ") is " + x.scenes(k));
        }
        for (int n = 0; n < x.count(6); n++) {
            seen.add("cue(" + n + ") is " + x.cue(n));
        }
        seen.add("lies() is " + x.lies());
        seen.add("digest() is " + x.digest());
        for (int s = 0; s < 4; s++) {
            seeSheet(x, s, seen);
        }
        seen.add("SHUT is " + x.set(0, 0));
        seen.add("TAKES is " + x.set(1, 4));
        seen.add("HARD is " + x.set(2, 100));
        seen.add("digest() with nothing SHUT is " + x.digest());
        seen.add("wipe() is " + x.wipe());
        return seen;
    }

    /** An INDEX tells that the FORM is the right one. */
    private static void seeSheet(FerretCables x, int s, List<String> seen) {
        for (int form = 0; form < 3; form++) {
            x.get(s, form, 60);
            int finding = x.count(8);
            seen.add("SHEET " + s + " as of FORM " + form + ": FINDING " + finding);
            for (int i = 0; finding == 2 && i < 60; i++) {
                int item = x.get(s, form, i);
                if (item == Due.LEAST) {
                    break;
                }
                seen.add("item " + i + " of SHEET " + s + " is " + item);
            }
        }
        seen.add("SHEET " + s + " is lost: " + x.lose(s));
    }
}
