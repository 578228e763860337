import java.util.Arrays;

/**
 * A theatre's wires in pipes under the floor, drawn by ferrets.
 * The words in capitals are those of the document.
 */
public final class FerretCables {
    public static final int NONE = -1, BAD = -2, NOT = -3, FULL = -4;

    private static final int ENDS = 8;
    private static final int ALL_ENDS = 255;
    private static final int PIPES = 16;
    private static final int WIRES = 16;
    private static final int ALL_BITS = 65535;
    private static final int STEPS = 16;
    private static final int TEXT = 79;
    /** Bytes from the start of a PIPE to the start of the next one. */
    private static final int PACE = 5;
    /** More than any way is long. */
    private static final int FAR = 1000;
    private static final int MOST_TAKEN = 4;
    private static final int MOST_HARD = 999;
    private static final int LAST_DAY = 999;
    private static final int LAST_SECOND = 999;
    private static final int BELLS = 6;
    private static final int STROLL = 20;
    private static final int MARKS = 8;
    private static final int SCENES = 6;
    private static final int SHEETS = 4;
    private static final int ITEMS = 60;
    private static final int LEAST = -2147483648;
    private static final int NULL_FOUND = 1, INDEX_FOUND = 2, CAST_FOUND = 3, STORE_FOUND = 4, SIZE_FOUND = 5;

    private final Pipes pipes;
    private final Ways ways;
    private final Book book;
    private final Flow flow;
    private final Lamps lamps;
    private final Roaming roaming;
    private final Jottings jottings;
    private final Sheets sheets;
    private int hard;

    public FerretCables() {
        pipes = new Pipes();
        ways = new Ways(pipes);
        book = new Book(ways);
        flow = new Flow(ways);
        lamps = new Lamps(book, ways);
        roaming = new Roaming(pipes);
        jottings = new Jottings();
        sheets = new Sheets();
        hard = 100;
    }

    // ---- pipes

    public int type(int b) {
        if (!within(b, 0, 255)) {
            return BAD;
        }
        if (pipes.size >= TEXT) {
            return FULL;
        }
        pipes.append(b);
        book.playFrom(0);
        return pipes.size;
    }

    public int wipe() {
        int had = pipes.size;
        pipes.clear();
        book.playFrom(0);
        return had;
    }

    public int undo() {
        if (pipes.many == 0) {
            return NOT;
        }
        pipes.dropPipe();
        book.playFrom(0);
        return pipes.many;
    }

    public int fault() {
        return pipes.faultAt;
    }

    public int pipe(int pipe, int what) {
        if (!pipes.hasPipe(pipe)) {
            return BAD;
        }
        switch (what) {
            case 0:
                return pipes.first[pipe];
            case 1:
                return pipes.second[pipe];
            case 2:
                return pipes.length[pipe];
            case 3:
                return pipes.damp[pipe];
            case 4:
                return book.wiresIn(pipe, book.lyingNow());
            default:
                return BAD;
        }
    }

    public int set(int what, int v) {
        switch (what) {
            case 0:
                return within(v, 0, ALL_BITS) ? setShut(v) : BAD;
            case 1:
                return within(v, 1, MOST_TAKEN) ? setTakes(v) : BAD;
            case 2:
                return within(v, 1, MOST_HARD) ? setHard(v) : BAD;
            default:
                return BAD;
        }
    }

    private int setShut(int v) {
        int was = pipes.shut;
        pipes.shut = v;
        book.playFrom(0);
        return was;
    }

    private int setTakes(int v) {
        int was = pipes.takes;
        pipes.takes = v;
        book.playFrom(0);
        return was;
    }

    private int setHard(int v) {
        int was = hard;
        hard = v;
        return was;
    }

    // ---- steps

    public int letIn(int from, int to) {
        if (!areTwoEnds(from, to)) {
            return BAD;
        }
        return book.add(from, to);
    }

    public int pull(int wire) {
        if (!isWire(wire)) {
            return BAD;
        }
        return book.add(NONE, wire);
    }

    public int back() {
        if (book.many == 0) {
            return NOT;
        }
        book.dropStep();
        return book.many;
    }

    public int read(int s) {
        if (!sheets.hasSheet(s)) {
            return BAD;
        }
        if (sheets.isLost(s)) {
            return sheets.found(NULL_FOUND);
        }
        int done = 0;
        for (int i = 0; i + 1 < sheets.sizes[s]; i += 2) {
            int from = sheets.item(s, i);
            int to = sheets.item(s, i + 1);
            if (!areTwoEnds(from, to) || book.add(from, to) == FULL) {
                break;
            }
            done++;
        }
        return done;
    }

    public int judged() {
        return book.firstNotDone();
    }

    public int state(int k, int what) {
        if (!isBehind(k)) {
            return BAD;
        }
        if (what == 0) {
            return book.lying[k];
        }
        if (what == 1) {
            return book.fullPipes(book.lying[k]);
        }
        return BAD;
    }

    public int wire(int k, int wire) {
        if (!isBehind(k) || !isWire(wire)) {
            return BAD;
        }
        return book.pipesOf(wire, book.lying[k]);
    }

    public int out(int wire) {
        if (!isWire(wire)) {
            return BAD;
        }
        if (!hasBit(book.lyingNow(), wire)) {
            return NOT;
        }
        return book.drawnOutWith(wire);
    }

    // ---- ways

    public int shortest(int from, int to, int i) {
        if (!areTwoEnds(from, to) || i < NONE) {
            return BAD;
        }
        if (!findWay(from, to)) {
            return NONE;
        }
        if (i == NONE) {
            return ways.rowLength();
        }
        return i < ways.rowSize ? ways.row[i] : NONE;
    }

    public int most(int from, int to, int what) {
        if (!areTwoEnds(from, to) || !within(what, 0, 1)) {
            return BAD;
        }
        book.loadNow();
        return what == 0 ? ways.drawAll(from, to) : flow.greatest(from, to);
    }

    // ---- rust, lamps

    public int fails(int wire) {
        if (!isWire(wire)) {
            return BAD;
        }
        return failingDay(wire, book.lyingNow());
    }

    public int soonest() {
        int lying = book.lyingNow();
        int best = NONE;
        int bestDay = LAST_DAY + 1;
        for (int w = 0; w < WIRES; w++) {
            int day = failingDay(w, lying);
            if (day != NONE && day < bestDay) {
                best = w;
                bestDay = day;
            }
        }
        return best;
    }

    public int left(int day) {
        if (!within(day, 0, LAST_DAY)) {
            return BAD;
        }
        int lying = book.lyingNow();
        int kept = lying;
        for (int w = 0; w < WIRES; w++) {
            int failed = failingDay(w, lying);
            if (failed != NONE && failed <= day) {
                kept &= ~(1 << w);
            }
        }
        return kept;
    }

    public int burns(int off) {
        if (!within(off, 0, ALL_BITS)) {
            return BAD;
        }
        return book.joinedTo(0, book.lyingNow() & ~off);
    }

    public int lit(int ends, int what) {
        if (!within(ends, 0, ALL_ENDS) || !within(what, 0, 2)) {
            return BAD;
        }
        lamps.seek(ends);
        if (what == 0) {
            return lamps.needed;
        }
        return what == 1 ? lamps.firstLetIn : lamps.secondLetIn;
    }

    // ---- bells, two that meet

    public int heard(int from, int bells, int at) {
        if (!isEnd(from) || !within(bells, 0, BELLS) || !within(at, NONE, ENDS - 1)) {
            return BAD;
        }
        roaming.follow(from, bells);
        return at == NONE ? roaming.possibleEnds() : roaming.waysTo[at];
    }

    public int meet(int pipe, int first, int second, int what) {
        if (!pipes.hasPipe(pipe) || !within(what, 0, 1)) {
            return BAD;
        }
        if (!within(first, 0, LAST_SECOND) || !within(second, 0, LAST_SECOND)) {
            return BAD;
        }
        int length = pipes.length[pipe];
        if (Math.abs(first - second) >= length) {
            return NONE;
        }
        if (what == 0) {
            return length + second - first;
        }
        return second > first ? 1 : 0;
    }

    public int drowsy(int seed, int from, int n) {
        if (!isEnd(from) || !within(n, 0, STROLL)) {
            return BAD;
        }
        return roaming.stroll(seed, from, n);
    }

    // ---- chalk, scenes

    public int chalk(int wire, int a, int b) {
        if (!isWire(wire) || !areTwoEnds(a, b)) {
            return BAD;
        }
        return jottings.addMark(wire, bit(a) | bit(b));
    }

    public int lies() {
        int lying = book.lyingNow();
        int wrong = 0;
        for (int m = 0; m < jottings.markCount; m++) {
            int wire = jottings.markWire[m];
            if (!hasBit(lying, wire) || book.endsOf(wire) != jottings.markEnds[m]) {
                wrong |= bit(m);
            }
        }
        return wrong;
    }

    public int scene(int ends) {
        if (!within(ends, 0, ALL_ENDS)) {
            return BAD;
        }
        return jottings.addScene(ends);
    }

    public int scenes(int k) {
        if (!isBehind(k)) {
            return BAD;
        }
        int burning = burningBehind(k);
        int so = 0;
        for (int n = 0; n < jottings.sceneCount; n++) {
            if (jottings.sceneEnds[n] == burning) {
                so |= bit(n);
            }
        }
        return so;
    }

    public int cue(int scene) {
        if (!within(scene, 0, jottings.sceneCount - 1)) {
            return BAD;
        }
        for (int k = 0; k <= book.many; k++) {
            if (burningBehind(k) == jottings.sceneEnds[scene]) {
                return k;
            }
        }
        return NONE;
    }

    public int forget(int what) {
        if (what == 0) {
            return jottings.dropMarks();
        }
        return what == 1 ? jottings.dropScenes() : BAD;
    }

    // ---- sheets

    public int sheet(int s, int form, int n) {
        if (!sheets.hasSheet(s) || !sheets.isForm(form) || n > ITEMS) {
            return BAD;
        }
        if (n < 0) {
            return sheets.found(SIZE_FOUND);
        }
        sheets.renew(s, form, n);
        return n;
    }

    public int lose(int s) {
        if (!sheets.hasSheet(s)) {
            return BAD;
        }
        if (sheets.isLost(s)) {
            return sheets.found(NULL_FOUND);
        }
        int had = sheets.sizes[s];
        sheets.drop(s);
        return had;
    }

    public int lay(int s, int form, int i, int v) {
        if (!sheets.hasSheet(s) || !sheets.isForm(form)) {
            return BAD;
        }
        int finding = sheets.findingAt(s, form, i);
        if (finding != 0) {
            return sheets.found(finding);
        }
        sheets.store(s, i, v);
        return 1;
    }

    public int get(int s, int form, int i) {
        if (!sheets.hasSheet(s) || !sheets.isForm(form)) {
            return LEAST;
        }
        int finding = sheets.findingAt(s, form, i);
        if (finding != 0) {
            sheets.found(finding);
            return LEAST;
        }
        return sheets.item(s, i);
    }

    public int copy(int s, int i, int t, int j, int n) {
        if (!sheets.hasSheet(s) || !sheets.hasSheet(t)) {
            return BAD;
        }
        if (sheets.isLost(s) || sheets.isLost(t)) {
            return sheets.found(NULL_FOUND);
        }
        if (sheets.forms[s] != sheets.forms[t]) {
            return sheets.found(STORE_FOUND);
        }
        if (!sheets.hasSpan(s, i, n) || !sheets.hasSpan(t, j, n)) {
            return sheets.found(INDEX_FOUND);
        }
        sheets.move(s, i, t, j, n);
        return 1;
    }

    public int write(int from, int to, int s) {
        if (!areTwoEnds(from, to) || !sheets.hasSheet(s)) {
            return BAD;
        }
        if (sheets.isLost(s)) {
            return sheets.found(NULL_FOUND);
        }
        if (!findWay(from, to)) {
            return 0;
        }
        int written = Math.min(ways.rowSize, sheets.sizes[s]);
        for (int i = 0; i < written; i++) {
            sheets.store(s, i, ways.row[i]);
        }
        return written;
    }

    public int count(int what) {
        switch (what) {
            case 0:
                return pipes.many;
            case 1:
                return pipes.size;
            case 2:
                return book.many;
            case 3:
                return book.howManyDone();
            case 4:
                return Integer.bitCount(book.lyingNow());
            case 5:
                return jottings.markCount;
            case 6:
                return jottings.sceneCount;
            case 7:
                return pipes.wholeLength();
            case 8:
                return sheets.latest;
            default:
                return BAD;
        }
    }

    public long digest() {
        long h = 17;
        for (int what = 0; what <= 7; what++) {
            h = mix(h, count(what));
        }
        h = mix(h, fault());
        h = mix(h, judged());
        h = mixPipes(h);
        h = mixWires(h);
        h = mix(h, state(book.many, 0));
        h = mix(h, state(book.many, 1));
        h = mix(h, soonest());
        h = mix(h, left(9));
        h = mix(h, burns(0));
        h = mix(h, burns(5));
        h = mixEnds(h);
        // one search serves all three answers of lit(14, ..)
        lamps.seek(14);
        h = mix(h, lamps.needed);
        h = mix(h, lamps.firstLetIn);
        h = mix(h, lamps.secondLetIn);
        h = mix(h, heard(0, 4, NONE));
        h = mix(h, drowsy(7, 0, 9));
        h = mix(h, lies());
        h = mix(h, scenes(book.many));
        return mix(h, cue(0));
    }

    private long mixPipes(long start) {
        long h = start;
        for (int p = 0; p < pipes.many; p++) {
            for (int what = 0; what <= 4; what++) {
                h = mix(h, pipe(p, what));
            }
        }
        return h;
    }

    private long mixWires(long start) {
        long h = start;
        for (int w = 0; w < WIRES; w++) {
            h = mix(h, wire(book.many, w));
            h = mix(h, out(w));
            h = mix(h, fails(w));
        }
        return h;
    }

    private long mixEnds(long start) {
        long h = start;
        for (int e = 1; e < ENDS; e++) {
            h = mix(h, shortest(0, e, NONE));
            h = mix(h, most(0, e, 0));
            h = mix(h, most(0, e, 1));
            h = mix(h, heard(0, 3, e));
        }
        return h;
    }

    private static long mix(long h, int answer) {
        return 31L * h + answer;
    }

    private static boolean within(int v, int least, int greatest) {
        return v >= least && v <= greatest;
    }

    private static boolean isEnd(int v) {
        return within(v, 0, ENDS - 1);
    }

    private static boolean areTwoEnds(int a, int b) {
        return isEnd(a) && isEnd(b) && a != b;
    }

    private static boolean isWire(int v) {
        return within(v, 0, WIRES - 1);
    }

    private boolean isBehind(int k) {
        return within(k, 0, book.many);
    }

    private static int bit(int n) {
        return 1 << n;
    }

    private static boolean hasBit(int bits, int n) {
        return (bits & (1 << n)) != 0;
    }

    private boolean findWay(int from, int to) {
        book.loadNow();
        return ways.find(from, to);
    }

    private int burningBehind(int k) {
        return book.joinedTo(0, book.lying[k]);
    }

    /** The first day on which a wire fails; NONE: it does not lie, or never. */
    private int failingDay(int wire, int lying) {
        int damp = pipes.dampIn(book.pipesOf(wire, lying));
        if (damp <= 0) {
            return NONE;
        }
        return (hard + damp - 1) / damp;
    }

    /** The text of the PIPES, what it says, and what holds for all PIPES. */
    private static final class Pipes {
        final int[] text = new int[TEXT];
        final int[] first = new int[PIPES];
        final int[] second = new int[PIPES];
        final int[] length = new int[PIPES];
        final int[] damp = new int[PIPES];
        int size;
        /** The first byte that cannot stand where it does; NONE. */
        int wrongAt = NONE;
        int faultAt = NONE;
        /** How many PIPES there are: 0 with a FAULT. */
        int many;
        int shut;
        int takes = MOST_TAKEN;

        void append(int b) {
            if (size >= TEXT) {
                return;
            }
            text[size] = b;
            if (wrongAt == NONE && !fits(size)) {
                wrongAt = size;
            }
            if (wrongAt == NONE && size % PACE == 3) {
                takeUp(size / PACE);
            }
            size++;
            settle();
        }

        void clear() {
            size = 0;
            wrongAt = NONE;
            settle();
        }

        void dropPipe() {
            // the first PIPE has no ; ahead of it
            size = Math.max(0, size - PACE);
            settle();
        }

        /** Each PIPE has four bytes and a ; so a byte's place says what it must be; no seventeenth has room. */
        private boolean fits(int at) {
            int b = text[at];
            switch (at % PACE) {
                case 0:
                    return within(b, 'a', 'h');
                case 1:
                    return within(b, 'a', 'h') && b != text[at - 1];
                case 2:
                    return within(b, '1', '9');
                case 3:
                    return within(b, '0', '9');
                default:
                    return b == ';';
            }
        }

        private void takeUp(int p) {
            int at = p * PACE;
            if (!within(p, 0, PIPES - 1) || at + 3 >= TEXT) {
                return;
            }
            first[p] = text[at] - 'a';
            second[p] = text[at + 1] - 'a';
            length[p] = text[at + 2] - '0';
            damp[p] = text[at + 3] - '0';
        }

        private void settle() {
            boolean ended = size == 0 || size % PACE == PACE - 1;
            faultAt = wrongAt == NONE && !ended ? size : wrongAt;
            many = faultAt == NONE ? (size + 1) / PACE : 0;
        }

        boolean hasPipe(int p) {
            return within(p, 0, many - 1);
        }

        boolean isShut(int p) {
            return (shut & (1 << p)) != 0;
        }

        boolean touches(int p, int end) {
            return first[p] == end || second[p] == end;
        }

        int opposite(int p, int end) {
            return first[p] == end ? second[p] : first[p];
        }

        int wholeLength() {
            int sum = 0;
            for (int p = 0; p < many; p++) {
                sum += length[p];
            }
            return sum;
        }

        int dampIn(int bits) {
            int sum = 0;
            for (int p = 0; p < many; p++) {
                if (hasBit(bits, p)) {
                    sum += damp[p];
                }
            }
            return sum;
        }
    }

    /** The law by which a ferret goes, over PIPES that have so many wires each. */
    private static final class Ways {
        final Pipes pipes;
        /** How many wires each PIPE has: whoever asks for ways fills it first. */
        final int[] load = new int[PIPES];
        /** How far it is from each END to the one that was asked for. */
        final int[] far = new int[ENDS];
        /** The PIPES of the way that was found last. */
        final int[] row = new int[ENDS];
        int rowSize;

        Ways(Pipes pipes) {
            this.pipes = pipes;
        }

        boolean isOpen(int p) {
            return (pipes.shut & (1 << p)) == 0 && load[p] < pipes.takes;
        }

        boolean find(int from, int to) {
            measure(to);
            rowSize = 0;
            int at = from;
            for (int i = 0; i < ENDS && at != to; i++) {
                int p = leastOnward(at);
                if (p == NONE) {
                    return false;
                }
                row[i] = p;
                rowSize = i + 1;
                at = pipes.opposite(p, at);
            }
            return at == to;
        }

        private void measure(int to) {
            Arrays.fill(far, FAR);
            far[to] = 0;
            boolean changed = true;
            for (int round = 0; round < ENDS && changed; round++) {
                changed = false;
                for (int p = 0; p < pipes.many; p++) {
                    if (isOpen(p) && shorten(p)) {
                        changed = true;
                    }
                }
            }
        }

        private boolean shorten(int p) {
            int a = pipes.first[p];
            int b = pipes.second[p];
            int length = pipes.length[p];
            if (far[a] + length < far[b]) {
                far[b] = far[a] + length;
                return true;
            }
            if (far[b] + length < far[a]) {
                far[a] = far[b] + length;
                return true;
            }
            return false;
        }

        /** The least PIPE with which a shortest way goes on makes the least row. */
        private int leastOnward(int at) {
            if (far[at] >= FAR) {
                return NONE;
            }
            for (int p = 0; p < pipes.many; p++) {
                if (isOpen(p) && pipes.touches(p, at)
                        && far[pipes.opposite(p, at)] + pipes.length[p] == far[at]) {
                    return p;
                }
            }
            return NONE;
        }

        int rowLength() {
            int sum = 0;
            for (int i = 0; i < rowSize; i++) {
                sum += pipes.length[row[i]];
            }
            return sum;
        }

        int rowBits() {
            int bits = 0;
            for (int i = 0; i < rowSize; i++) {
                bits |= bit(row[i]);
            }
            return bits;
        }

        void drawAlongRow(int wires) {
            for (int i = 0; i < rowSize; i++) {
                load[row[i]] += wires;
            }
        }

        /** How many wires can be drawn one by one; it uses the load up. */
        int drawAll(int from, int to) {
            int sum = 0;
            for (int round = 0; round <= PIPES; round++) {
                if (!find(from, to)) {
                    break;
                }
                // till one of its PIPES is full no other way comes to be shorter or less
                int wires = roomInRow();
                drawAlongRow(wires);
                sum += wires;
            }
            return sum;
        }

        private int roomInRow() {
            int room = pipes.takes;
            for (int i = 0; i < rowSize; i++) {
                room = Math.min(room, pipes.takes - load[row[i]]);
            }
            return room;
        }

        /** All ENDS to which there is a way, as bits, the END itself too. */
        int reachedFrom(int end) {
            int reached = bit(end);
            int before = 0;
            for (int round = 0; round < ENDS && reached != before; round++) {
                before = reached;
                for (int p = 0; p < pipes.many; p++) {
                    int both = bit(pipes.first[p]) | bit(pipes.second[p]);
                    if ((reached & both) != 0 && isOpen(p)) {
                        reached |= both;
                    }
                }
            }
            return reached;
        }
    }

    /** The STEPS and what comes of them: always played to the end. */
    private static final class Book {
        final Ways ways;
        final Pipes pipes;
        /** NONE: the STEP is a PULL. */
        final int[] from = new int[STEPS];
        /** Of a PULL: which wire. */
        final int[] to = new int[STEPS];
        /** Behind k STEPS the wires that lie, as bits. */
        final int[] lying = new int[STEPS + 1];
        /** The PIPES in which a wire was drawn, as bits. */
        final int[] laid = new int[STEPS];
        int many;

        Book(Ways ways) {
            this.ways = ways;
            this.pipes = ways.pipes;
        }

        int add(int start, int target) {
            if (many >= STEPS) {
                return FULL;
            }
            from[many] = start;
            to[many] = target;
            many++;
            playFrom(many - 1);
            return many;
        }

        void dropStep() {
            if (many > 0) {
                many--;
            }
        }

        /** What STEPS before the first one did must stand; from 0 on when PIPES, SHUT or TAKES change. */
        void playFrom(int first) {
            for (int step = first; step < many; step++) {
                lying[step + 1] = from[step] == NONE ? afterPull(to[step], lying[step]) : afterLetIn(step);
            }
        }

        int lyingNow() {
            return lying[many];
        }

        private int afterLetIn(int step) {
            int before = lying[step];
            fillLoad(before);
            if (!ways.find(from[step], to[step])) {
                return before;
            }
            laid[step] = ways.rowBits();
            return before | bit(step);
        }

        private int afterPull(int wire, int before) {
            if (!hasBit(before, wire)) {
                return before;
            }
            for (int w = wire + 1; w < WIRES; w++) {
                if (hasBit(before, w) && (laid[w] & laid[wire]) != 0) {
                    return before;
                }
            }
            return before & ~bit(wire);
        }

        /** A STEP that is done draws a wire in or out: so one that changed nothing was not. */
        private boolean isDone(int step) {
            return lying[step + 1] != lying[step];
        }

        int firstNotDone() {
            for (int step = 0; step < many; step++) {
                if (!isDone(step)) {
                    return step;
                }
            }
            return NONE;
        }

        int howManyDone() {
            int sum = 0;
            for (int step = 0; step < many; step++) {
                if (isDone(step)) {
                    sum++;
                }
            }
            return sum;
        }

        int pipesOf(int wire, int wires) {
            return (wires & (1 << wire)) == 0 ? 0 : laid[wire];
        }

        int endsOf(int wire) {
            return bit(from[wire]) | bit(to[wire]);
        }

        int wiresIn(int pipe, int wires) {
            int sum = 0;
            for (int w = 0; w < WIRES; w++) {
                if (hasBit(pipesOf(w, wires), pipe)) {
                    sum++;
                }
            }
            return sum;
        }

        int fullPipes(int wires) {
            int full = 0;
            for (int p = 0; p < pipes.many; p++) {
                if (wiresIn(p, wires) >= pipes.takes) {
                    full |= bit(p);
                }
            }
            return full;
        }

        void loadNow() {
            fillLoad(lyingNow());
        }

        private void fillLoad(int wires) {
            Arrays.fill(ways.load, 0);
            for (int w = 0; w < WIRES; w++) {
                int bits = pipesOf(w, wires);
                for (int p = 0; bits != 0 && p < PIPES; p++) {
                    ways.load[p] += (bits >> p) & 1;
                }
            }
        }

        /** Only wires drawn later hinder one, so each is looked at behind all that it may hinder. */
        int drawnOutWith(int wire) {
            int wires = lyingNow();
            int drawn = bit(wire);
            int freed = laid[wire];
            for (int w = wire + 1; w < WIRES; w++) {
                int bits = pipesOf(w, wires);
                if ((bits & freed) != 0) {
                    drawn |= bit(w);
                    freed |= bits;
                }
            }
            return drawn;
        }

        /** The ENDS that some wires join to one, as bits. */
        int joinedTo(int end, int wires) {
            int joined = bit(end);
            int before = 0;
            for (int round = 0; round < ENDS && joined != before; round++) {
                before = joined;
                for (int w = 0; w < WIRES; w++) {
                    if (hasBit(wires, w) && (joined & endsOf(w)) != 0) {
                        joined |= endsOf(w);
                    }
                }
            }
            return joined;
        }
    }

    /** MOST: a greatest flow, one wire after the other, over the load that the ways have. */
    private static final class Flow {
        final Ways ways;
        final Pipes pipes;
        /** Wires from the first END to the second one, less those that go against them. */
        final int[] along = new int[PIPES];
        /** The PIPE by which an END was come to. */
        final int[] by = new int[ENDS];
        final int[] queue = new int[ENDS];

        Flow(Ways ways) {
            this.ways = ways;
            this.pipes = ways.pipes;
        }

        int greatest(int from, int to) {
            Arrays.fill(along, 0);
            int sum = 0;
            while (sum < PIPES * MOST_TAKEN && seekRoom(from, to)) {
                push(from, to);
                sum++;
            }
            return sum;
        }

        private boolean seekRoom(int from, int to) {
            Arrays.fill(by, NONE);
            int seen = bit(from);
            int end = 1;
            queue[0] = from;
            for (int i = 0; i < ENDS && i < end && !hasBit(seen, to); i++) {
                int at = queue[i];
                for (int p = 0; p < pipes.many; p++) {
                    if (!pipes.touches(p, at) || !hasRoom(p, at)) {
                        continue;
                    }
                    int next = pipes.opposite(p, at);
                    if (!hasBit(seen, next) && end < ENDS) {
                        seen |= bit(next);
                        by[next] = p;
                        queue[end] = next;
                        end++;
                    }
                }
            }
            return hasBit(seen, to);
        }

        private boolean hasRoom(int p, int at) {
            if (pipes.isShut(p)) {
                return false;
            }
            int gone = pipes.first[p] == at ? along[p] : -along[p];
            return gone < pipes.takes - ways.load[p];
        }

        private void push(int from, int to) {
            int at = to;
            for (int i = 0; i < ENDS && at != from; i++) {
                int p = by[at];
                if (p == NONE) {
                    return;
                }
                along[p] += pipes.second[p] == at ? 1 : -1;
                at = pipes.opposite(p, at);
            }
        }
    }

    /** LIT: the fewest LETS-IN more. */
    private static final class Lamps {
        final Book book;
        final Ways ways;
        /** What each END is joined to by the wires that lie, as bits. */
        final int[] joined = new int[ENDS];
        int needed;
        int firstLetIn;
        int secondLetIn;

        Lamps(Book book, Ways ways) {
            this.book = book;
            this.ways = ways;
        }

        void seek(int ends) {
            needed = NONE;
            firstLetIn = NONE;
            secondLetIn = NONE;
            int wires = book.lyingNow();
            for (int e = 0; e < ENDS; e++) {
                joined[e] = book.joinedTo(e, wires);
            }
            if (holdsAll(joined[0], ends)) {
                needed = 0;
                return;
            }
            book.loadNow();
            int one = lastLetIn(ends, NONE);
            if (one != NONE) {
                needed = 1;
                firstLetIn = one;
                return;
            }
            seekTwo(ends);
        }

        private void seekTwo(int ends) {
            for (int one = 0; one < ENDS * ENDS; one++) {
                int from = one / ENDS;
                int to = one % ENDS;
                if (from == to || !ways.find(from, to)) {
                    continue;
                }
                ways.drawAlongRow(1);
                int two = lastLetIn(ends, one);
                // the next one is tried with the wires that lie alone
                ways.drawAlongRow(-1);
                if (two != NONE) {
                    needed = 2;
                    firstLetIn = one;
                    secondLetIn = two;
                    return;
                }
            }
        }

        /** The least LET-IN that, with the one before it (or NONE), makes all the ENDS burn; NONE. */
        private int lastLetIn(int ends, int before) {
            for (int last = 0; last < ENDS * ENDS; last++) {
                int from = last / ENDS;
                int to = last % ENDS;
                // what burns is asked first: it costs less than whether there is a way
                if (from != to && holdsAll(burningWith(before, last), ends)
                        && hasBit(ways.reachedFrom(from), to)) {
                    return last;
                }
            }
            return NONE;
        }

        private int burningWith(int one, int two) {
            int burning = spread(joined[0], two);
            if (one == NONE) {
                return burning;
            }
            // the second one may go on only from where the first one comes to
            return spread(spread(burning, one), two);
        }

        private int spread(int burning, int letIn) {
            int from = letIn / ENDS;
            int to = letIn % ENDS;
            if (!within(from, 0, ENDS - 1) || !within(to, 0, ENDS - 1)) {
                return burning;
            }
            boolean touched = hasBit(burning, from) || hasBit(burning, to);
            return touched ? burning | joined[from] | joined[to] : burning;
        }

        private static boolean holdsAll(int bits, int wanted) {
            return (wanted & ~bits) == 0;
        }
    }

    /** Ferrets that go where they like. */
    private static final class Roaming {
        final Pipes pipes;
        /** In how many ways she can be at each END. */
        final int[] waysTo = new int[ENDS];
        /** In how many of them she came through a PIPE to its first END, and to its second one. */
        final int[] toFirst = new int[PIPES];
        final int[] toSecond = new int[PIPES];

        Roaming(Pipes pipes) {
            this.pipes = pipes;
        }

        void follow(int from, int bells) {
            Arrays.fill(waysTo, 0);
            Arrays.fill(toFirst, 0);
            Arrays.fill(toSecond, 0);
            waysTo[from] = 1;
            for (int i = 0; i < bells; i++) {
                ring();
            }
        }

        private void ring() {
            for (int p = 0; p < pipes.many; p++) {
                if (pipes.isShut(p)) {
                    continue;
                }
                // those that came through this very PIPE do not go back through it
                int ahead = waysTo[pipes.first[p]] - toFirst[p];
                int against = waysTo[pipes.second[p]] - toSecond[p];
                toSecond[p] = ahead;
                toFirst[p] = against;
            }
            Arrays.fill(waysTo, 0);
            for (int p = 0; p < pipes.many; p++) {
                waysTo[pipes.first[p]] += toFirst[p];
                waysTo[pipes.second[p]] += toSecond[p];
            }
        }

        int possibleEnds() {
            int ends = 0;
            for (int e = 0; e < ENDS; e++) {
                if (waysTo[e] > 0) {
                    ends |= bit(e);
                }
            }
            return ends;
        }

        int stroll(int seed, int from, int n) {
            int lot = seed;
            int at = from;
            for (int i = 0; i < n; i++) {
                int choices = choicesAt(at);
                if (choices <= 0) {
                    return at;
                }
                lot = 1103515245 * lot + 12345;
                at = behindChoice(at, (lot >>> 16) % choices);
            }
            return at;
        }

        private int choicesAt(int end) {
            int sum = 0;
            for (int p = 0; p < pipes.many; p++) {
                if (isChoice(p, end)) {
                    sum++;
                }
            }
            return sum;
        }

        private int behindChoice(int end, int choice) {
            int left = choice;
            for (int p = 0; p < pipes.many; p++) {
                if (isChoice(p, end)) {
                    if (left == 0) {
                        return pipes.opposite(p, end);
                    }
                    left--;
                }
            }
            return end;
        }

        private boolean isChoice(int p, int end) {
            return !pipes.isShut(p) && pipes.touches(p, end);
        }
    }

    /** What people wrote down: CHALK and SCENES. */
    private static final class Jottings {
        final int[] markWire = new int[MARKS];
        /** Both ENDS as bits: a mark does not say from which one the wire was drawn. */
        final int[] markEnds = new int[MARKS];
        final int[] sceneEnds = new int[SCENES];
        int markCount;
        int sceneCount;

        int addMark(int wire, int ends) {
            if (markCount >= MARKS) {
                return FULL;
            }
            markWire[markCount] = wire;
            markEnds[markCount] = ends;
            markCount++;
            return markCount;
        }

        int addScene(int ends) {
            if (sceneCount >= SCENES) {
                return FULL;
            }
            // END 0 burns anyway
            sceneEnds[sceneCount] = ends | 1;
            sceneCount++;
            return sceneCount;
        }

        int dropMarks() {
            int had = markCount;
            markCount = 0;
            return had;
        }

        int dropScenes() {
            int had = sceneCount;
            sceneCount = 0;
            return had;
        }
    }

    /** The SHEETS, with room for the longest of each, and the latest FINDING. */
    private static final class Sheets {
        final int[] items = new int[SHEETS * ITEMS];
        /** NONE: the SHEET is LOST. */
        final int[] forms = new int[SHEETS];
        final int[] sizes = new int[SHEETS];
        int latest;

        Sheets() {
            Arrays.fill(forms, NONE);
        }

        int found(int number) {
            latest = number;
            return -10 - number;
        }

        boolean hasSheet(int s) {
            return within(s, 0, SHEETS - 1);
        }

        boolean isForm(int form) {
            return within(form, 0, 2);
        }

        boolean isLost(int s) {
            return forms[s] == NONE;
        }

        void renew(int s, int form, int n) {
            forms[s] = form;
            sizes[s] = n;
            for (int i = 0; i < n; i++) {
                items[s * ITEMS + i] = 0;
            }
        }

        void drop(int s) {
            forms[s] = NONE;
            sizes[s] = 0;
        }

        /** The number of the FINDING when an item is treated as of a FORM; 0: none. */
        int findingAt(int s, int form, int i) {
            if (isLost(s)) {
                return NULL_FOUND;
            }
            if (forms[s] != form) {
                return CAST_FOUND;
            }
            return within(i, 0, sizes[s] - 1) ? 0 : INDEX_FOUND;
        }

        int item(int s, int i) {
            return items[s * ITEMS + i];
        }

        void store(int s, int i, int v) {
            items[s * ITEMS + i] = narrowed(forms[s], v);
        }

        private static int narrowed(int form, int v) {
            if (form == 0) {
                return (byte) v;
            }
            return form == 1 ? (short) v : v;
        }

        boolean hasSpan(int s, int start, int n) {
            return start >= 0 && n >= 0 && start <= sizes[s] - n;
        }

        void move(int s, int i, int t, int j, int n) {
            System.arraycopy(items, s * ITEMS + i, items, t * ITEMS + j, n);
        }
    }
}
