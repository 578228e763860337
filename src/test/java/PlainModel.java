import java.util.ArrayList;
import java.util.List;
import java.util.TreeMap;

/**
 * The document once more, as slowly and plainly as can be: ways by trying all of them, flows by trying
 * all cuts, every answer from the text and the STEPS anew. ModelTest holds the class against it.
 */
final class PlainModel {
    static final int NONE = -1, BAD = -2, NOT = -3, FULL = -4;

    /** One PIPE. */
    record Pipe(int a, int b, int length, int damp) {
        int other(int end) {
            return end == a ? b : a;
        }

        boolean at(int end) {
            return end == a || end == b;
        }
    }

    /** A STEP: a LET-IN, or a PULL with from NONE and the wire in to. */
    record Step(int from, int to) { }

    /** A SHEET that is not LOST. */
    static final class Row {
        final int form;
        final long[] items;

        Row(int form, int n) {
            this.form = form;
            this.items = new long[n];
        }
    }

    private final StringBuilder text = new StringBuilder();
    private final List<Step> steps = new ArrayList<>();
    private final List<int[]> marks = new ArrayList<>();
    private final List<Integer> scenes = new ArrayList<>();
    private final Row[] sheets = new Row[4];
    private int shut = 0;
    private int takes = 4;
    private int hard = 100;
    private int latest = 0;

    private static boolean in(int v, int least, int most) {
        return v >= least && v <= most;
    }

    private static boolean twoEnds(int a, int b) {
        return in(a, 0, 7) && in(b, 0, 7) && a != b;
    }

    int type(int b) {
        if (!in(b, 0, 255)) return BAD;
        if (text.length() == 79) return FULL;
        text.append((char) b);
        return text.length();
    }

    int wipe() {
        int n = text.length();
        text.setLength(0);
        return n;
    }

    int undo() {
        if (pipes().isEmpty()) return NOT;
        int semicolon = text.lastIndexOf(";");
        text.setLength(Math.max(semicolon, 0));
        return pipes().size();
    }

    int fault() {
        if (text.length() == 0) return NONE;
        int i = 0;
        for (int n = 0; ; n++) {
            if (i == text.length()) return i;
            if (n == 16 || !in(text.charAt(i), 'a', 'h')) return i;
            char first = text.charAt(i++);
            if (i == text.length() || !in(text.charAt(i), 'a', 'h') || text.charAt(i) == first) return i;
            i++;
            if (i == text.length() || !in(text.charAt(i), '1', '9')) return i;
            i++;
            if (i == text.length() || !in(text.charAt(i), '0', '9')) return i;
            i++;
            if (i == text.length()) return NONE;
            if (text.charAt(i) != ';') return i;
            i++;
        }
    }

    private List<Pipe> pipes() {
        List<Pipe> pipes = new ArrayList<>();
        if (fault() != NONE || text.length() == 0) return pipes;
        for (String p : text.toString().split(";")) {
            pipes.add(new Pipe(p.charAt(0) - 'a', p.charAt(1) - 'a', p.charAt(2) - '0', p.charAt(3) - '0'));
        }
        return pipes;
    }

    int pipe(int pipe, int what) {
        List<Pipe> pipes = pipes();
        if (!in(pipe, 0, pipes.size() - 1)) return BAD;
        Pipe p = pipes.get(pipe);
        return switch (what) {
            case 0 -> p.a;
            case 1 -> p.b;
            case 2 -> p.length;
            case 3 -> p.damp;
            case 4 -> new Floor(steps.size()).load(pipe);
            default -> BAD;
        };
    }

    int set(int what, int v) {
        int was;
        if (what == 0 && in(v, 0, 65535)) {
            was = shut;
            shut = v;
        } else if (what == 1 && in(v, 1, 4)) {
            was = takes;
            takes = v;
        } else if (what == 2 && in(v, 1, 999)) {
            was = hard;
            hard = v;
        } else {
            return BAD;
        }
        return was;
    }

    /** What lies under the floor behind so many STEPS. */
    private final class Floor {
        final List<Pipe> pipes = pipes();
        final TreeMap<Integer, List<Integer>> rows = new TreeMap<>();
        final List<Integer> notDone = new ArrayList<>();

        Floor(int k) {
            for (int i = 0; i < k; i++) {
                Step s = steps.get(i);
                boolean done = s.from == NONE ? drawOut(s.to) : draw(i, s.from, s.to);
                if (!done) notDone.add(i);
            }
        }

        boolean draw(int wire, int from, int to) {
            List<Integer> row = way(from, to);
            if (row == null) return false;
            rows.put(wire, row);
            return true;
        }

        boolean drawOut(int wire) {
            if (!rows.containsKey(wire)) return false;
            for (int later : rows.tailMap(wire, false).keySet()) {
                if (share(later, wire)) return false;
            }
            rows.remove(wire);
            return true;
        }

        boolean share(int v, int w) {
            for (int p : rows.get(v)) {
                if (rows.get(w).contains(p)) return true;
            }
            return false;
        }

        int load(int pipe) {
            int n = 0;
            for (List<Integer> row : rows.values()) {
                if (row.contains(pipe)) n++;
            }
            return n;
        }

        List<Integer> way(int from, int to) {
            boolean[] open = new boolean[pipes.size()];
            for (int p = 0; p < open.length; p++) {
                open[p] = (shut >> p & 1) == 0 && load(p) < takes;
            }
            List<List<Integer>> best = new ArrayList<>();
            goOn(from, to, 1 << from, new ArrayList<>(), open, best);
            return best.isEmpty() ? null : best.get(0);
        }

        private void goOn(int at, int to, int been, List<Integer> row, boolean[] open, List<List<Integer>> best) {
            if (at == to) {
                if (best.isEmpty() || isLess(row, best.get(0))) {
                    best.clear();
                    best.add(new ArrayList<>(row));
                }
                return;
            }
            if (!best.isEmpty() && length(row) > length(best.get(0))) return;
            for (int p = 0; p < open.length; p++) {
                if (!open[p] || !pipes.get(p).at(at)) continue;
                int next = pipes.get(p).other(at);
                if ((been >> next & 1) != 0) continue;
                row.add(p);
                goOn(next, to, been | 1 << next, row, open, best);
                row.remove(row.size() - 1);
            }
        }

        int length(List<Integer> row) {
            int n = 0;
            for (int p : row) n += pipes.get(p).length;
            return n;
        }

        private boolean isLess(List<Integer> x, List<Integer> y) {
            if (length(x) != length(y)) return length(x) < length(y);
            for (int i = 0; i < Math.min(x.size(), y.size()); i++) {
                if (!x.get(i).equals(y.get(i))) return x.get(i) < y.get(i);
            }
            return x.size() < y.size();
        }

        int lying() {
            int bits = 0;
            for (int w : rows.keySet()) bits |= 1 << w;
            return bits;
        }

        int full() {
            int bits = 0;
            for (int p = 0; p < pipes.size(); p++) {
                if (load(p) == takes) bits |= 1 << p;
            }
            return bits;
        }

        int bitsOf(int wire) {
            int bits = 0;
            if (rows.containsKey(wire)) {
                for (int p : rows.get(wire)) bits |= 1 << p;
            }
            return bits;
        }

        int damp(int wire) {
            int n = 0;
            if (rows.containsKey(wire)) {
                for (int p : rows.get(wire)) n += pipes.get(p).damp;
            }
            return n;
        }
    }

    private Floor now() {
        return new Floor(steps.size());
    }

    int letIn(int from, int to) {
        if (!twoEnds(from, to)) return BAD;
        if (steps.size() == 16) return FULL;
        steps.add(new Step(from, to));
        return steps.size();
    }

    int pull(int wire) {
        if (!in(wire, 0, 15)) return BAD;
        if (steps.size() == 16) return FULL;
        steps.add(new Step(NONE, wire));
        return steps.size();
    }

    int back() {
        if (steps.isEmpty()) return NOT;
        steps.remove(steps.size() - 1);
        return steps.size();
    }

    int read(int s) {
        if (!in(s, 0, 3)) return BAD;
        if (sheets[s] == null) return found(1);
        int n = 0;
        while (2 * n + 1 < sheets[s].items.length
                && letIn((int) sheets[s].items[2 * n], (int) sheets[s].items[2 * n + 1]) > 0) {
            n++;
        }
        return n;
    }

    int judged() {
        Floor f = now();
        return f.notDone.isEmpty() ? NONE : f.notDone.get(0);
    }

    int state(int k, int what) {
        if (!in(k, 0, steps.size()) || !in(what, 0, 1)) return BAD;
        return what == 0 ? new Floor(k).lying() : new Floor(k).full();
    }

    int wire(int k, int wire) {
        if (!in(k, 0, steps.size()) || !in(wire, 0, 15)) return BAD;
        return new Floor(k).bitsOf(wire);
    }

    /** Tries all sets of wires in turn, drawing out the latest first. */
    int out(int wire) {
        if (!in(wire, 0, 15)) return BAD;
        Floor f = now();
        int lying = f.lying();
        if ((lying >> wire & 1) == 0) return NOT;
        int best = lying;
        for (int set = lying; set > 0; set = set - 1 & lying) {
            if ((set >> wire & 1) == 0 || Integer.bitCount(set) >= Integer.bitCount(best)) continue;
            boolean done = true;
            for (int v = 0; v < 16 && done; v++) {
                for (int w = v + 1; w < 16 && done; w++) {
                    boolean hinders = (set >> v & 1) != 0 && ((lying & ~set) >> w & 1) != 0;
                    if (hinders && (f.bitsOf(v) & f.bitsOf(w)) != 0) done = false;
                }
            }
            if (done) best = set;
        }
        return best;
    }

    int shortest(int from, int to, int i) {
        if (!twoEnds(from, to) || i < NONE) return BAD;
        Floor f = now();
        List<Integer> row = f.way(from, to);
        if (row == null) return NONE;
        if (i == NONE) return f.length(row);
        return i < row.size() ? row.get(i) : NONE;
    }

    int most(int from, int to, int what) {
        if (!twoEnds(from, to) || !in(what, 0, 1)) return BAD;
        Floor f = now();
        if (what == 0) {
            int n = 0;
            while (f.draw(100 + n, from, to)) n++;
            return n;
        }
        int least = Integer.MAX_VALUE;
        for (int side = 0; side < 256; side++) {
            if ((side >> from & 1) == 0 || (side >> to & 1) != 0) continue;
            int cut = 0;
            for (int p = 0; p < f.pipes.size(); p++) {
                Pipe pipe = f.pipes.get(p);
                if ((side >> pipe.a & 1) != (side >> pipe.b & 1) && (shut >> p & 1) == 0) cut += takes - f.load(p);
            }
            least = Math.min(least, cut);
        }
        return least;
    }

    int fails(int wire) {
        if (!in(wire, 0, 15)) return BAD;
        return failing(now(), wire);
    }

    private int failing(Floor f, int wire) {
        int damp = f.damp(wire);
        for (int day = 1; day <= 999; day++) {
            if (damp * day >= hard) return day;
        }
        return NONE;
    }

    int soonest() {
        Floor f = now();
        for (int day = 1; day <= 999; day++) {
            for (int w = 0; w < 16; w++) {
                if (f.damp(w) * day >= hard) return w;
            }
        }
        return NONE;
    }

    int left(int day) {
        if (!in(day, 0, 999)) return BAD;
        Floor f = now();
        int bits = 0;
        for (int w : f.rows.keySet()) {
            if (f.damp(w) * day < hard) bits |= 1 << w;
        }
        return bits;
    }

    int burns(int off) {
        if (!in(off, 0, 65535)) return BAD;
        List<int[]> wires = wires(now(), off);
        return joined(wires);
    }

    private List<int[]> wires(Floor f, int off) {
        List<int[]> wires = new ArrayList<>();
        for (int w : f.rows.keySet()) {
            if ((off >> w & 1) == 0) wires.add(new int[] {steps.get(w).from, steps.get(w).to});
        }
        return wires;
    }

    private static int joined(List<int[]> wires) {
        int bits = 1;
        for (int i = 0; i < 8; i++) {
            for (int[] w : wires) {
                if ((bits >> w[0] & 1) != 0) bits |= 1 << w[1];
                if ((bits >> w[1] & 1) != 0) bits |= 1 << w[0];
            }
        }
        return bits;
    }

    int lit(int ends, int what) {
        if (!in(ends, 0, 255) || !in(what, 0, 2)) return BAD;
        int[] answer = {NONE, NONE, NONE};
        for (int n = 0; n <= 2 && answer[0] == NONE; n++) {
            Floor f = now();
            if (letMore(f, wires(f, 0), ends, n, 0, answer)) answer[0] = n;
        }
        return answer[what];
    }

    private boolean letMore(Floor f, List<int[]> wires, int ends, int n, int gone, int[] answer) {
        if (gone == n) return (joined(wires) & ends) == ends;
        for (int from = 0; from < 8; from++) {
            for (int to = 0; to < 8; to++) {
                if (from == to || !f.draw(200 + gone, from, to)) continue;
                wires.add(new int[] {from, to});
                boolean all = letMore(f, wires, ends, n, gone + 1, answer);
                wires.remove(wires.size() - 1);
                f.rows.remove(200 + gone);
                if (all) {
                    answer[gone + 1] = 8 * from + to;
                    return true;
                }
            }
        }
        return false;
    }

    int heard(int from, int bells, int at) {
        if (!in(from, 0, 7) || !in(bells, 0, 6) || !in(at, NONE, 7)) return BAD;
        int[] ways = new int[8];
        ring(pipes(), from, NONE, bells, ways);
        if (at != NONE) return ways[at];
        int bits = 0;
        for (int e = 0; e < 8; e++) {
            if (ways[e] > 0) bits |= 1 << e;
        }
        return bits;
    }

    private void ring(List<Pipe> pipes, int at, int last, int bells, int[] ways) {
        if (bells == 0) {
            ways[at]++;
            return;
        }
        for (int p = 0; p < pipes.size(); p++) {
            if (p != last && (shut >> p & 1) == 0 && pipes.get(p).at(at)) {
                ring(pipes, pipes.get(p).other(at), p, bells - 1, ways);
            }
        }
    }

    /** By half SECONDS: where both are, as long as both are in the PIPE. */
    int meet(int pipe, int first, int second, int what) {
        if (!in(pipe, 0, pipes().size() - 1)) return BAD;
        if (!in(first, 0, 999) || !in(second, 0, 999) || !in(what, 0, 1)) return BAD;
        int length = pipes().get(pipe).length;
        for (int half = 2 * Math.max(first, second); half <= 2 * Math.min(first, second) + 2 * length; half++) {
            int one = half - 2 * first;
            int two = half - 2 * second;
            if (one + two != 2 * length || one == 0 || two == 0) continue;
            if (what == 0) return one;
            return one <= two ? 0 : 1;
        }
        return NONE;
    }

    int drowsy(int seed, int from, int n) {
        if (!in(from, 0, 7) || !in(n, 0, 20)) return BAD;
        List<Pipe> pipes = pipes();
        long s = seed;
        int at = from;
        for (int i = 0; i < n; i++) {
            List<Integer> next = new ArrayList<>();
            for (int p = 0; p < pipes.size(); p++) {
                if ((shut >> p & 1) == 0 && pipes.get(p).at(at)) next.add(pipes.get(p).other(at));
            }
            if (next.isEmpty()) return at;
            s = (1103515245L * s + 12345L) & 0xffffffffL;
            at = next.get((int) ((s >> 16) % next.size()));
        }
        return at;
    }

    int chalk(int wire, int a, int b) {
        if (!in(wire, 0, 15) || !twoEnds(a, b)) return BAD;
        if (marks.size() == 8) return FULL;
        marks.add(new int[] {wire, a, b});
        return marks.size();
    }

    int lies() {
        Floor f = now();
        int bits = 0;
        for (int i = 0; i < marks.size(); i++) {
            int[] m = marks.get(i);
            boolean so = false;
            if (f.rows.containsKey(m[0])) {
                Step s = steps.get(m[0]);
                so = s.from == m[1] && s.to == m[2] || s.from == m[2] && s.to == m[1];
            }
            if (!so) bits |= 1 << i;
        }
        return bits;
    }

    int scene(int ends) {
        if (!in(ends, 0, 255)) return BAD;
        if (scenes.size() == 6) return FULL;
        scenes.add(ends);
        return scenes.size();
    }

    int scenes(int k) {
        if (!in(k, 0, steps.size())) return BAD;
        int burning = joined(wires(new Floor(k), 0));
        int bits = 0;
        for (int i = 0; i < scenes.size(); i++) {
            if ((scenes.get(i) | 1) == burning) bits |= 1 << i;
        }
        return bits;
    }

    int cue(int scene) {
        if (!in(scene, 0, scenes.size() - 1)) return BAD;
        for (int k = 0; k <= steps.size(); k++) {
            if ((scenes(k) >> scene & 1) != 0) return k;
        }
        return NONE;
    }

    int forget(int what) {
        if (!in(what, 0, 1)) return BAD;
        List<?> told = what == 0 ? marks : scenes;
        int n = told.size();
        told.clear();
        return n;
    }

    private int found(int number) {
        latest = number;
        return -10 - number;
    }

    int sheet(int s, int form, int n) {
        if (!in(s, 0, 3) || !in(form, 0, 2) || n > 60) return BAD;
        if (n < 0) return found(5);
        sheets[s] = new Row(form, n);
        return n;
    }

    int lose(int s) {
        if (!in(s, 0, 3)) return BAD;
        if (sheets[s] == null) return found(1);
        int n = sheets[s].items.length;
        sheets[s] = null;
        return n;
    }

    private int findingOf(int s, int form, int i) {
        if (sheets[s] == null) return 1;
        if (sheets[s].form != form) return 3;
        return in(i, 0, sheets[s].items.length - 1) ? 0 : 2;
    }

    int lay(int s, int form, int i, int v) {
        if (!in(s, 0, 3) || !in(form, 0, 2)) return BAD;
        int finding = findingOf(s, form, i);
        if (finding != 0) return found(finding);
        put(sheets[s], i, v);
        return 1;
    }

    private static void put(Row row, int i, int v) {
        int bits = 8 << row.form;
        row.items[i] = (long) v << 64 - bits >> 64 - bits;
    }

    int get(int s, int form, int i) {
        if (!in(s, 0, 3) || !in(form, 0, 2)) return Integer.MIN_VALUE;
        int finding = findingOf(s, form, i);
        if (finding != 0) {
            found(finding);
            return Integer.MIN_VALUE;
        }
        return (int) sheets[s].items[i];
    }

    int copy(int s, int i, int t, int j, int n) {
        if (!in(s, 0, 3) || !in(t, 0, 3)) return BAD;
        if (sheets[s] == null || sheets[t] == null) return found(1);
        if (sheets[s].form != sheets[t].form) return found(4);
        if (i < 0 || j < 0 || n < 0) return found(2);
        if ((long) i + n > sheets[s].items.length || (long) j + n > sheets[t].items.length) return found(2);
        long[] were = sheets[s].items.clone();
        for (int k = 0; k < n; k++) sheets[t].items[j + k] = were[i + k];
        return 1;
    }

    int write(int from, int to, int s) {
        if (!twoEnds(from, to) || !in(s, 0, 3)) return BAD;
        if (sheets[s] == null) return found(1);
        int i = 0;
        while (i < sheets[s].items.length && shortest(from, to, i) != NONE) {
            put(sheets[s], i, shortest(from, to, i));
            i++;
        }
        return i;
    }

    int count(int what) {
        switch (what) {
            case 0: return pipes().size();
            case 1: return text.length();
            case 2: return steps.size();
            case 3: return steps.size() - now().notDone.size();
            case 4: return now().rows.size();
            case 5: return marks.size();
            case 6: return scenes.size();
            case 7: {
                int n = 0;
                for (Pipe p : pipes()) n += p.length;
                return n;
            }
            case 8: return latest;
            default: return BAD;
        }
    }

    long digest() {
        long h = 17;
        int all = steps.size();
        for (int i = 0; i <= 7; i++) h = 31 * h + count(i);
        h = 31 * h + fault();
        h = 31 * h + judged();
        for (int p = 0; p < pipes().size(); p++) {
            for (int i = 0; i <= 4; i++) h = 31 * h + pipe(p, i);
        }
        for (int w = 0; w < 16; w++) {
            h = 31 * h + wire(all, w);
            h = 31 * h + out(w);
            h = 31 * h + fails(w);
        }
        h = 31 * h + state(all, 0);
        h = 31 * h + state(all, 1);
        h = 31 * h + soonest();
        h = 31 * h + left(9);
        h = 31 * h + burns(0);
        h = 31 * h + burns(5);
        for (int e = 1; e <= 7; e++) {
            h = 31 * h + shortest(0, e, NONE);
            h = 31 * h + most(0, e, 0);
            h = 31 * h + most(0, e, 1);
            h = 31 * h + heard(0, 3, e);
        }
        for (int i = 0; i <= 2; i++) h = 31 * h + lit(14, i);
        h = 31 * h + heard(0, 4, NONE);
        h = 31 * h + drowsy(7, 0, 9);
        h = 31 * h + lies();
        h = 31 * h + scenes(all);
        return 31 * h + cue(0);
    }
}
