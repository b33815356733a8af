import java.util.Arrays;
import java.util.NoSuchElementException;

/** Latches and flops under the phases of a clock; the document tells the words used here. */
public final class LatchTimes {
    public static final int NONE = -1;

    private static final int LACKING = -2;
    private static final long NO = 1L << 63;
    private static final int UNTOLD = 1 << 31;
    private static final int NO_MOVE = -2000;
    private static final int NO_MOVING_CELL = -3000;

    private static final int UNIT = 64;
    private static final int PHASES = 4;
    private static final int CELLS = 10;
    private static final int PATHS = 24;
    private static final int LONGEST_PERIOD = 9999;
    private static final int LONGEST_DELAY = 999;
    private static final int LONGEST_SKEW = 99;
    private static final int LATEST_SEED = 99999;
    private static final int LAST_WAVE = 200;
    private static final int MOST_TRIALS = 40;
    private static final int TAPE_LENGTH = 700;
    private static final int FEED_LENGTH = 20;

    private final int[] tape = new int[TAPE_LENGTH];
    private int taped;
    private final Net net = new Net();
    private final Reader reader = new Reader(tape);
    private final Past past = new Past();
    private final Times times = new Times(net);
    private final Waves waves = new Waves(net);
    private final Loops loops = new Loops(net);
    private final Search search = new Search(net, times);

    public LatchTimes() {
    }

    public int feed(int a, int b, int c, int d, int e) {
        if (taped + FEED_LENGTH > TAPE_LENGTH) {
            return NONE;
        }
        putFour(a);
        putFour(b);
        putFour(c);
        putFour(d);
        putFour(e);
        return taped;
    }

    private void putFour(int bytes) {
        for (int shift = 24; shift >= 0; shift -= 8) {
            tape[taped] = bytes >>> shift & 255;
            taped++;
        }
    }

    public int text(int n) {
        if (n < 0 || n > taped) {
            return LACKING;
        }
        taped = 0;
        if (!reader.read(n)) {
            return NONE;
        }
        net.takeAllOf(reader.draft);
        past.forgetAll();
        past.imageKept = false;
        forgetAnswers();
        return reader.lines;
    }

    public int fault(int what) {
        if (what == 0) {
            return reader.fault;
        }
        return what == 1 ? reader.faultPlace : NONE;
    }

    public int named(int kind, int letters) {
        if (kind == 0) {
            return find(net.phaseName, net.phases, letters);
        }
        return kind == 1 ? find(net.cellName, net.cells, letters) : NONE;
    }

    private static int find(int[] names, int count, int name) {
        for (int i = 0; i < count; i++) {
            if (names[i] == name) {
                return i;
            }
        }
        return NONE;
    }

    private void forgetAnswers() {
        times.known = false;
        loops.known = false;
    }

    /** Stands ahead of each change, so that the change can be undone. */
    private void beginChange() {
        past.push(net);
        forgetAnswers();
    }

    public int period(int n) {
        if (n < 1 || n > LONGEST_PERIOD) {
            return NONE;
        }
        int was = net.period;
        beginChange();
        net.period = n;
        return was;
    }

    public boolean phase(int phase, int opens, int width) {
        if (!net.hasPhase(phase) || opens < 0 || opens >= UNIT || width < 1 || width >= UNIT) {
            return false;
        }
        beginChange();
        net.opens[phase] = opens;
        net.width[phase] = width;
        return true;
    }

    public boolean delay(int path, int most, int least) {
        if (!net.hasPath(path) || most > LONGEST_DELAY || least < 0 || least > most) {
            return false;
        }
        beginChange();
        net.most[path] = most;
        net.least[path] = least;
        return true;
    }

    public int flop(int cell) {
        if (!net.hasCell(cell)) {
            return NONE;
        }
        beginChange();
        net.flops ^= 1 << cell;
        return net.isFlop(cell) ? 1 : 0;
    }

    public int skew(int n) {
        if (n < 0 || n > LONGEST_SKEW) {
            return NONE;
        }
        int was = net.skew;
        beginChange();
        net.skew = n;
        return was;
    }

    public boolean move(int cell, int n) {
        if (!net.hasCell(cell) || n < net.leastMove(cell) || n > net.greatestMove(cell)) {
            return false;
        }
        beginChange();
        net.moveWork(cell, n);
        return true;
    }

    public int cell(int cell, int what) throws IndexOutOfBoundsException, NoSuchElementException {
        if (!net.hasCell(cell)) {
            throw new IndexOutOfBoundsException("no such cell");
        }
        switch (what) {
            case 0:
                return net.phaseOf[cell];
            case 1:
                return net.setup[cell];
            case 2:
                return net.hold[cell];
            case 3:
                return net.through[cell];
            case 4:
                return net.isFlop(cell) ? 1 : 0;
            case 5:
                return countOf(net.to, net.paths, cell);
            case 6:
                return countOf(net.from, net.paths, cell);
            default:
                throw new NoSuchElementException("no such what");
        }
    }

    private static int countOf(int[] row, int length, int value) {
        int count = 0;
        for (int i = 0; i < length; i++) {
            if (row[i] == value) {
                count++;
            }
        }
        return count;
    }

    public int path(int path, int what) {
        if (!net.hasPath(path)) {
            return NONE;
        }
        switch (what) {
            case 0:
                return net.from[path];
            case 1:
                return net.to[path];
            case 2:
                return net.most[path];
            case 3:
                return net.least[path];
            case 4:
                return net.shiftOf(path);
            default:
                return NONE;
        }
    }

    public int opens(int phase, int what) {
        if (!net.hasPhase(phase)) {
            return NONE;
        }
        if (what == 0) {
            return net.opens[phase];
        }
        return what == 1 ? net.width[phase] : NONE;
    }

    public long leaves(int cell) {
        if (!net.hasCell(cell)) {
            return NONE;
        }
        return times.isForever() ? LACKING : times.leaves[cell];
    }

    public long comes(int cell) {
        if (!net.hasCell(cell) || times.isForever()) {
            return NO;
        }
        return times.comes[cell];
    }

    public long room(int cell) {
        if (!net.hasCell(cell) || times.isForever()) {
            return NO;
        }
        return times.roomOf(cell);
    }

    public int from(int cell) {
        if (!net.hasCell(cell)) {
            return NONE;
        }
        int path = times.isForever() ? NONE : times.latestPath(cell);
        return path == NONE ? LACKING : path;
    }

    public int chain(int cell, int i) {
        if (!net.hasCell(cell) || i < 0) {
            return NONE;
        }
        return times.isForever() ? LACKING : times.chained(cell, i);
    }

    public int which(int what) {
        if (what < 0 || what > 1) {
            return NONE;
        }
        if (times.isForever()) {
            return LACKING;
        }
        return what == 0 ? times.borrowing() : times.unmet();
    }

    public int good() {
        if (times.isForever()) {
            return 0;
        }
        return times.unmet() == 0 ? 2 : 1;
    }

    public long gap(int path) {
        return net.hasPath(path) ? net.gapOf(path) : NO;
    }

    public int pad(int path) {
        return net.hasPath(path) ? net.padOf(path) : NONE;
    }

    public int pads() {
        int sum = 0;
        for (int p = 0; p < net.paths; p++) {
            sum += net.padOf(p);
        }
        return sum;
    }

    public long wave(int cell, int n) {
        if (!net.hasCell(cell) || n < 0 || n > LAST_WAVE) {
            return NO;
        }
        return waves.leavesAt(cell, n);
    }

    public int fails(int cell) {
        return net.hasCell(cell) ? waves.firstUnmet(cell) : NONE;
    }

    public long ratio(boolean under) {
        loops.look();
        return under ? loops.lower : loops.upper;
    }

    public int loop(int i) {
        if (i < 0) {
            return NONE;
        }
        loops.look();
        return i < loops.length ? loops.slowest[i] : LACKING;
    }

    public int leastPeriod() {
        int least = search.shortestPeriod();
        return least == NONE ? LACKING : least;
    }

    public int slower(int path) {
        return net.hasPath(path) ? search.slowestDelay(path) : NONE;
    }

    public int bestOpens(int phase) {
        return net.hasPhase(phase) ? search.bestOpening(phase, NONE) : NONE;
    }

    public int bestTwo(int one, int other) {
        if (!net.hasPhase(one) || !net.hasPhase(other) || one == other) {
            return NONE;
        }
        return search.bestOpening(one, other);
    }

    public int gain(int path) {
        return net.hasPath(path) ? search.gainOf(path) : NONE;
    }

    public int breaks() {
        return loops.fewestBreaks();
    }

    public int bestMove(int cell) {
        return net.hasCell(cell) ? search.bestMoving(cell) : NO_MOVING_CELL;
    }

    public int leastWidth(int phase) {
        if (!net.hasPhase(phase)) {
            return NONE;
        }
        return times.isForever() ? LACKING : times.narrowest(phase);
    }

    public int flops() {
        if (times.isForever() || times.unmet() != 0) {
            return LACKING;
        }
        return times.possibleFlops();
    }

    public long near(int path) {
        if (!net.hasPath(path) || times.isForever()) {
            return NO;
        }
        return times.roomBy(path);
    }

    public int nearest(int k) {
        if (k < 0) {
            return NONE;
        }
        if (times.isForever() || k >= net.paths) {
            return LACKING;
        }
        return times.pathByRoom(k);
    }

    public int event(int k, int what) {
        int key = net.eventKey(k);
        if (key == NONE) {
            return NONE;
        }
        switch (what) {
            case 0:
                return key / (2 * PHASES);
            case 1:
                return key % PHASES;
            case 2:
                return key / PHASES % 2;
            default:
                return NONE;
        }
    }

    public int open(int time) {
        return time < 0 || time >= UNIT * net.period ? NONE : net.openAt(time);
    }

    public int chance(int seed, int n, int what) {
        if (seed < -1 || n < 1 || n > MOST_TRIALS || what < 0 || what > 2) {
            return NONE;
        }
        return search.byChance(seed == -1 ? net.seed : seed, n, what);
    }

    public int undo() {
        if (past.count == 0) {
            return NONE;
        }
        past.pop(net);
        forgetAnswers();
        return past.count;
    }

    public int keep() {
        past.keepImage(net);
        return net.period;
    }

    public int back() {
        if (!past.imageKept) {
            return NONE;
        }
        past.restoreImage(net);
        past.forgetAll();
        forgetAnswers();
        return net.period;
    }

    public int count(int what) {
        switch (what) {
            case 0:
                return net.phases;
            case 1:
                return net.cells;
            case 2:
                return net.paths;
            case 3:
                return net.period;
            case 4:
                return Integer.bitCount(net.flops);
            case 5:
                return past.count;
            case 6:
                return taped;
            case 7:
                return net.skew;
            case 8:
                return Integer.bitCount(net.latches());
            default:
                return NONE;
        }
    }

    /** The least whole number that is no less than above by below; below is above 0. */
    private static int roundedUp(int above, int below) {
        return -Math.floorDiv(-above, Math.max(below, 1));
    }

    /** Phases, cells and paths as the text and the calls behind it have made them. */
    private static final class Net {
        static final int CHANGEABLE = 3 + 2 * PHASES + 2 * PATHS;
        private static final int FIRST_PERIOD = 100;

        final int[] phaseName = new int[PHASES];
        final int[] opens = new int[PHASES];
        final int[] width = new int[PHASES];
        final int[] cellName = new int[CELLS];
        final int[] phaseOf = new int[CELLS];
        final int[] setup = new int[CELLS];
        final int[] hold = new int[CELLS];
        final int[] through = new int[CELLS];
        final int[] from = new int[PATHS];
        final int[] to = new int[PATHS];
        final int[] most = new int[PATHS];
        final int[] least = new int[PATHS];
        int phases;
        int cells;
        int paths;
        int flops;
        int period = FIRST_PERIOD;
        int skew;
        int seed;

        void clear() {
            phases = 0;
            cells = 0;
            paths = 0;
            flops = 0;
            period = FIRST_PERIOD;
            skew = 0;
            seed = 0;
        }

        void takeAllOf(Net other) {
            System.arraycopy(other.phaseName, 0, phaseName, 0, PHASES);
            System.arraycopy(other.opens, 0, opens, 0, PHASES);
            System.arraycopy(other.width, 0, width, 0, PHASES);
            System.arraycopy(other.cellName, 0, cellName, 0, CELLS);
            System.arraycopy(other.phaseOf, 0, phaseOf, 0, CELLS);
            System.arraycopy(other.setup, 0, setup, 0, CELLS);
            System.arraycopy(other.hold, 0, hold, 0, CELLS);
            System.arraycopy(other.through, 0, through, 0, CELLS);
            System.arraycopy(other.from, 0, from, 0, PATHS);
            System.arraycopy(other.to, 0, to, 0, PATHS);
            System.arraycopy(other.most, 0, most, 0, PATHS);
            System.arraycopy(other.least, 0, least, 0, PATHS);
            phases = other.phases;
            cells = other.cells;
            paths = other.paths;
            flops = other.flops;
            period = other.period;
            skew = other.skew;
            seed = other.seed;
        }

        /** Writes what calls can change into row, from at on; readFrom takes it back. */
        void writeTo(int[] row, int at) {
            row[at] = period;
            row[at + 1] = skew;
            row[at + 2] = flops;
            int next = at + 3;
            System.arraycopy(opens, 0, row, next, PHASES);
            System.arraycopy(width, 0, row, next + PHASES, PHASES);
            next += 2 * PHASES;
            System.arraycopy(most, 0, row, next, PATHS);
            System.arraycopy(least, 0, row, next + PATHS, PATHS);
        }

        void readFrom(int[] row, int at) {
            period = row[at];
            skew = row[at + 1];
            flops = row[at + 2];
            int next = at + 3;
            System.arraycopy(row, next, opens, 0, PHASES);
            System.arraycopy(row, next + PHASES, width, 0, PHASES);
            next += 2 * PHASES;
            System.arraycopy(row, next, most, 0, PATHS);
            System.arraycopy(row, next + PATHS, least, 0, PATHS);
        }

        boolean hasPhase(int phase) {
            return phase >= 0 && phase < phases;
        }

        boolean hasCell(int cell) {
            return cell >= 0 && cell < cells;
        }

        boolean hasPath(int path) {
            return path >= 0 && path < paths;
        }

        boolean isFlop(int cell) {
            return (flops >> cell & 1) != 0;
        }

        int latches() {
            return (1 << cells) - 1 & ~flops;
        }

        int pathBetween(int first, int second) {
            for (int p = 0; p < paths; p++) {
                if (from[p] == first && to[p] == second) {
                    return p;
                }
            }
            return NONE;
        }

        int shiftOf(int path) {
            int behind = opens[phaseOf[to[path]]] - opens[phaseOf[from[path]]];
            return (behind - 1 & UNIT - 1) + 1;
        }

        int delayOf(int path) {
            return UNIT * (through[from[path]] + most[path] + skew);
        }

        /** What each path adds to LEAVES of the cell it is from. */
        void weighPaths(int[] weight) {
            for (int p = 0; p < paths; p++) {
                weight[p] = delayOf(p) - shiftOf(p) * period;
            }
        }

        /** COMES of each cell by LEAVES of each. */
        void gather(int[] leaves, int[] weight, int[] comes) {
            Arrays.fill(comes, UNTOLD);
            for (int p = 0; p < paths; p++) {
                comes[to[p]] = Math.max(comes[to[p]], leaves[from[p]] + weight[p]);
            }
            for (int c = 0; c < cells; c++) {
                if (comes[c] == UNTOLD) {
                    comes[c] = isFlop(c) ? -UNIT * setup[c] : 0;
                }
            }
        }

        int leavesBy(int cell, int comes) {
            return isFlop(cell) ? 0 : Math.max(comes, 0);
        }

        /** How late it may come to a cell at a period, for the cell to be met. */
        int limitOf(int cell, int atPeriod) {
            int opening = isFlop(cell) ? 0 : width[phaseOf[cell]] * atPeriod;
            return opening - UNIT * setup[cell];
        }

        int roomBy(int cell, int comes) {
            return limitOf(cell, period) - (isFlop(cell) ? comes : Math.max(comes, 0));
        }

        int gapOf(int path) {
            int goal = to[path];
            int early = UNIT * (through[from[path]] + least[path] - skew) - shiftOf(path) * period;
            int opening = isFlop(goal) ? 0 : width[phaseOf[goal]] * period;
            return early + UNIT * period - opening - UNIT * hold[goal];
        }

        int padOf(int path) {
            return Math.max(roundedUp(-gapOf(path), UNIT), 0);
        }

        /** The least n by which work could go over a cell. */
        int leastMove(int cell) {
            int bound = -LONGEST_DELAY;
            for (int p = 0; p < paths; p++) {
                if (from[p] != to[p] && to[p] == cell) {
                    bound = Math.max(bound, -least[p]);
                } else if (from[p] != to[p] && from[p] == cell) {
                    bound = Math.max(bound, most[p] - LONGEST_DELAY);
                }
            }
            return bound;
        }

        int greatestMove(int cell) {
            int bound = LONGEST_DELAY;
            for (int p = 0; p < paths; p++) {
                if (from[p] != to[p] && to[p] == cell) {
                    bound = Math.min(bound, LONGEST_DELAY - most[p]);
                } else if (from[p] != to[p] && from[p] == cell) {
                    bound = Math.min(bound, least[p]);
                }
            }
            return bound;
        }

        void moveWork(int cell, int n) {
            for (int p = 0; p < paths; p++) {
                int more = (to[p] == cell ? n : 0) - (from[p] == cell ? n : 0);
                most[p] += more;
                least[p] += more;
            }
        }

        /** The k-th event; its time, then whether it opens, then its phase make one number. */
        int eventKey(int k) {
            for (int e = 0; e < 2 * phases; e++) {
                int key = keyOf(e);
                int ahead = 0;
                for (int other = 0; other < 2 * phases; other++) {
                    if (keyOf(other) < key) {
                        ahead++;
                    }
                }
                if (ahead == k) {
                    return key;
                }
            }
            return NONE;
        }

        private int keyOf(int event) {
            int phase = event / 2;
            int opening = event % 2;
            int place = opening == 1 ? opens[phase] : (opens[phase] + width[phase]) % UNIT;
            return (2 * place * period + opening) * PHASES + phase;
        }

        int openAt(int time) {
            int count = 0;
            for (int p = 0; p < phases; p++) {
                int since = Math.floorMod(time - opens[p] * period, Math.max(UNIT * period, 1));
                if (since < width[p] * period) {
                    count++;
                }
            }
            return count;
        }
    }

    /** Reads a text into a net of its own; the first fault ends it. */
    private static final class Reader {
        private static final int END = 0;
        private static final int WORD = 1;
        private static final int NUMBER = 2;
        private static final int STOP = 3;
        private static final int OTHER = 4;

        private static final int WRONG = 1;
        private static final int TOO_MUCH = 2;
        private static final int TOLD = 3;
        private static final int UNKNOWN = 4;

        private static final int LETTERS = 6;
        private static final int LETTER_BITS = 5;
        private static final int ATTRIBUTE_LIMIT = 99;

        // The words' letters as in named(): period, phase, latch, flop, path, skew, seed.
        private static final int PERIOD_WORD = 16 << 25 | 5 << 20 | 18 << 15 | 9 << 10 | 15 << 5 | 4;
        private static final int PHASE_WORD = 16 << 25 | 8 << 20 | 1 << 15 | 19 << 10 | 5 << 5;
        private static final int LATCH_WORD = 12 << 25 | 1 << 20 | 20 << 15 | 3 << 10 | 8 << 5;
        private static final int FLOP_WORD = 6 << 25 | 12 << 20 | 15 << 15 | 16 << 10;
        private static final int PATH_WORD = 16 << 25 | 1 << 20 | 20 << 15 | 8 << 10;
        private static final int SKEW_WORD = 19 << 25 | 11 << 20 | 5 << 15 | 23 << 10;
        private static final int SEED_WORD = 19 << 25 | 5 << 20 | 5 << 15 | 4 << 10;

        final Net draft = new Net();
        int lines;
        int fault;
        int faultPlace = NONE;

        private final int[] bytes;
        private int length;
        private int at;
        private int kind;
        private int place;
        private int value;
        private boolean periodTold;
        private boolean skewTold;
        private boolean seedTold;

        Reader(int[] bytes) {
            this.bytes = bytes;
        }

        boolean read(int textLength) {
            length = Math.min(textLength, bytes.length);
            at = 0;
            lines = 0;
            fault = 0;
            faultPlace = NONE;
            periodTold = false;
            skewTold = false;
            seedTold = false;
            draft.clear();
            for (int i = 0; i <= length; i++) {
                readToken();
                if (kind == END) {
                    break;
                }
                readLine();
                if (fault != 0) {
                    return false;
                }
                lines++;
            }
            return true;
        }

        private void readLine() {
            switch (kind == WORD ? value : 0) {
                case PERIOD_WORD:
                    readPeriod();
                    break;
                case PHASE_WORD:
                    readPhase();
                    break;
                case LATCH_WORD:
                    readCell(0);
                    break;
                case FLOP_WORD:
                    readCell(1);
                    break;
                case PATH_WORD:
                    readPath();
                    break;
                case SKEW_WORD:
                    readSkew();
                    break;
                case SEED_WORD:
                    readSeed();
                    break;
                default:
                    refuse(WRONG);
            }
        }

        private void readPeriod() {
            refuseIf(periodTold, TOLD);
            periodTold = true;
            draft.period = readNumber(1, LONGEST_PERIOD);
            readStop();
        }

        private void readSkew() {
            refuseIf(skewTold, TOLD);
            skewTold = true;
            draft.skew = readNumber(0, LONGEST_SKEW);
            readStop();
        }

        private void readSeed() {
            refuseIf(seedTold, TOLD);
            seedTold = true;
            draft.seed = readNumber(0, LATEST_SEED);
            readStop();
        }

        private void readPhase() {
            refuseIf(draft.phases >= PHASES, TOO_MUCH);
            refuseIf(readName(draft.phaseName, draft.phases) != NONE, TOLD);
            int name = value;
            int opens = readNumber(0, UNIT - 1);
            int width = readNumber(1, UNIT - 1);
            readStop();
            if (fault == 0) {
                int phase = draft.phases;
                draft.phaseName[phase] = name;
                draft.opens[phase] = opens;
                draft.width[phase] = width;
                draft.phases++;
            }
        }

        private void readCell(int flop) {
            refuseIf(draft.cells >= CELLS, TOO_MUCH);
            refuseIf(readName(draft.cellName, draft.cells) != NONE, TOLD);
            int name = value;
            int phase = readName(draft.phaseName, draft.phases);
            refuseIf(phase == NONE, UNKNOWN);
            int setup = readNumber(0, ATTRIBUTE_LIMIT);
            int hold = readNumber(0, ATTRIBUTE_LIMIT);
            int through = readNumber(0, ATTRIBUTE_LIMIT);
            readStop();
            if (fault == 0) {
                int cell = draft.cells;
                draft.cellName[cell] = name;
                draft.phaseOf[cell] = phase;
                draft.setup[cell] = setup;
                draft.hold[cell] = hold;
                draft.through[cell] = through;
                draft.flops |= flop << cell;
                draft.cells++;
            }
        }

        private void readPath() {
            refuseIf(draft.paths >= PATHS, TOO_MUCH);
            int first = readName(draft.cellName, draft.cells);
            refuseIf(first == NONE, UNKNOWN);
            int second = readName(draft.cellName, draft.cells);
            refuseIf(second == NONE, UNKNOWN);
            refuseIf(draft.pathBetween(first, second) != NONE, TOLD);
            int most = readNumber(0, LONGEST_DELAY);
            int least = readNumber(0, most);
            readStop();
            if (fault == 0) {
                int path = draft.paths;
                draft.from[path] = first;
                draft.to[path] = second;
                draft.most[path] = most;
                draft.least[path] = least;
                draft.paths++;
            }
        }

        private int readNumber(int low, int high) {
            readToken();
            refuseIf(kind != NUMBER, WRONG);
            refuseIf(value < low || value > high, TOO_MUCH);
            return value;
        }

        /** The number of the name among those told; the name itself stands in value. */
        private int readName(int[] names, int count) {
            readToken();
            refuseIf(kind != WORD || isOfLanguage(value), WRONG);
            return find(names, count, value);
        }

        private void readStop() {
            readToken();
            refuseIf(kind != STOP, WRONG);
        }

        private static boolean isOfLanguage(int word) {
            return word == PERIOD_WORD || word == PHASE_WORD || word == LATCH_WORD || word == FLOP_WORD
                    || word == PATH_WORD || word == SKEW_WORD || word == SEED_WORD;
        }

        private void refuseIf(boolean wrong, int code) {
            if (wrong) {
                refuse(code);
            }
        }

        /** Only the first fault counts: a line goes on behind it without looking whether there was one. */
        private void refuse(int code) {
            if (fault == 0) {
                fault = code;
                faultPlace = place;
            }
        }

        private void readToken() {
            while (at < length && (bytes[at] == ' ' || bytes[at] == '\n')) {
                at++;
            }
            place = at;
            value = 0;
            if (at >= length) {
                kind = END;
            } else if (isLetter(bytes[at])) {
                readWord();
            } else if (isDigit(bytes[at])) {
                readDigits();
            } else {
                kind = bytes[at] == ';' ? STOP : OTHER;
                at++;
            }
        }

        private void readWord() {
            int shift = LETTERS * LETTER_BITS;
            while (at < length && isLetter(bytes[at])) {
                shift -= LETTER_BITS;
                value |= shift >= 0 ? bytes[at] - 'a' + 1 << shift : 0;
                at++;
            }
            kind = shift >= 0 ? WORD : OTHER;
        }

        private void readDigits() {
            kind = NUMBER;
            while (at < length && isDigit(bytes[at])) {
                value = Math.min(10 * value + bytes[at] - '0', LATEST_SEED + 1);
                at++;
            }
        }

        private static boolean isLetter(int sign) {
            return sign >= 'a' && sign <= 'z';
        }

        private static boolean isDigit(int sign) {
            return sign >= '0' && sign <= '9';
        }
    }

    /** What can be undone, in a ring, and the image. */
    private static final class Past {
        private static final int LIMIT = 20;

        private final int[] ring = new int[LIMIT * Net.CHANGEABLE];
        private final int[] image = new int[Net.CHANGEABLE];
        private int next;
        int count;
        boolean imageKept;

        void push(Net net) {
            net.writeTo(ring, next * Net.CHANGEABLE);
            next = (next + 1) % LIMIT;
            count = Math.min(count + 1, LIMIT);
        }

        void pop(Net net) {
            next = (next + LIMIT - 1) % LIMIT;
            net.readFrom(ring, next * Net.CHANGEABLE);
            count--;
        }

        void forgetAll() {
            count = 0;
        }

        void keepImage(Net net) {
            net.writeTo(image, 0);
            imageKept = true;
        }

        void restoreImage(Net net) {
            net.readFrom(image, 0);
        }
    }

    /** LEAVES and COMES of the net as it is; kept till something changes. */
    private static final class Times {
        private final Net net;
        private final int[] weight = new int[PATHS];
        private final int[] rooms = new int[PATHS];
        final int[] leaves = new int[CELLS];
        final int[] comes = new int[CELLS];
        boolean known;
        private boolean forever;

        Times(Net net) {
            this.net = net;
        }

        boolean isForever() {
            if (!known) {
                net.weighPaths(weight);
                forever = !settle();
                net.gather(leaves, weight, comes);
                known = true;
            }
            return forever;
        }

        /** From rest each pass reaches a cell further; if the last one still changes, a loop feeds itself. */
        private boolean settle() {
            Arrays.fill(leaves, 0);
            for (int pass = 0; pass <= net.cells; pass++) {
                boolean changed = false;
                for (int p = 0; p < net.paths; p++) {
                    int goal = net.to[p];
                    int late = net.leavesBy(goal, leaves[net.from[p]] + weight[p]);
                    if (late > leaves[goal]) {
                        leaves[goal] = late;
                        changed = true;
                    }
                }
                if (!changed) {
                    return true;
                }
            }
            return false;
        }

        int roomOf(int cell) {
            return net.roomBy(cell, comes[cell]);
        }

        private int comesBy(int path) {
            return leaves[net.from[path]] + weight[path];
        }

        int latestPath(int cell) {
            for (int p = 0; p < net.paths; p++) {
                if (net.to[p] == cell && comesBy(p) == comes[cell]) {
                    return p;
                }
            }
            return NONE;
        }

        int chained(int cell, int i) {
            int seen = 0;
            int current = cell;
            for (int k = 0; k < CELLS; k++) {
                if (k == i) {
                    return current;
                }
                seen |= 1 << current;
                int path = latestPath(current);
                if (path == NONE || k > 0 && leaves[current] == 0) {
                    return LACKING;
                }
                current = net.from[path];
                if ((seen >> current & 1) != 0) {
                    return LACKING;
                }
            }
            return LACKING;
        }

        int borrowing() {
            int bits = 0;
            for (int c = 0; c < net.cells; c++) {
                bits |= leaves[c] > 0 ? 1 << c : 0;
            }
            return bits;
        }

        int unmet() {
            int bits = 0;
            for (int c = 0; c < net.cells; c++) {
                bits |= roomOf(c) < 0 ? 1 << c : 0;
            }
            return bits;
        }

        /** LEAVES do not hang on widths, so each latch of the phase tells the width that it needs. */
        int narrowest(int phase) {
            int width = 1;
            for (int c = 0; c < net.cells; c++) {
                if (net.phaseOf[c] == phase && !net.isFlop(c)) {
                    width = Math.max(width, roundedUp(leaves[c] + UNIT * net.setup[c], net.period));
                } else if (roomOf(c) < 0) {
                    return LACKING;
                }
            }
            return width < UNIT ? width : LACKING;
        }

        /**
         * When it is good, a latch that comes late enough to fail as a flop does so whatever others are: none
         * upstream can be a flop and leave earlier than now. And those that come in time leave at 0 either way.
         */
        int possibleFlops() {
            int bits = 0;
            for (int c = 0; c < net.cells; c++) {
                boolean inTime = latestPath(c) == NONE || comes[c] <= -UNIT * net.setup[c];
                bits |= !net.isFlop(c) && inTime ? 1 << c : 0;
            }
            return bits;
        }

        int roomBy(int path) {
            return net.roomBy(net.to[path], comesBy(path));
        }

        int pathByRoom(int k) {
            for (int p = 0; p < net.paths; p++) {
                rooms[p] = roomBy(p);
            }
            for (int p = 0; p < net.paths; p++) {
                int ahead = 0;
                for (int other = 0; other < net.paths; other++) {
                    if (rooms[other] < rooms[p] || rooms[other] == rooms[p] && other < p) {
                        ahead++;
                    }
                }
                if (ahead == k) {
                    return p;
                }
            }
            return LACKING;
        }
    }

    /** LEAVES and COMES wave by wave from rest. */
    private static final class Waves {
        private final Net net;
        private final int[] weight = new int[PATHS];
        private final int[] leaves = new int[CELLS];
        private final int[] comes = new int[CELLS];

        Waves(Net net) {
            this.net = net;
        }

        private void rest() {
            net.weighPaths(weight);
            Arrays.fill(leaves, 0);
        }

        /** Whether the wave has changed anything: if not, none behind it will. */
        private boolean step() {
            net.gather(leaves, weight, comes);
            boolean changed = false;
            for (int c = 0; c < net.cells; c++) {
                int late = net.leavesBy(c, comes[c]);
                changed |= late != leaves[c];
                leaves[c] = late;
            }
            return changed;
        }

        int leavesAt(int cell, int n) {
            rest();
            for (int i = 0; i < n; i++) {
                if (!step()) {
                    break;
                }
            }
            return leaves[cell];
        }

        int firstUnmet(int cell) {
            rest();
            for (int n = 1; n <= LAST_WAVE; n++) {
                boolean changed = step();
                if (net.roomBy(cell, comes[cell]) < 0) {
                    return n;
                }
                if (!changed) {
                    break;
                }
            }
            return LACKING;
        }
    }

    /** The loops of latches: the ratio with its loop, and the cells that break them all. */
    private static final class Loops {
        private final Net net;
        private final int[] next = new int[CELLS];
        private final int[] pathTo = new int[CELLS * CELLS];
        private final int[] row = new int[CELLS];
        final int[] slowest = new int[CELLS];
        int length;
        long upper;
        long lower;
        boolean known;

        Loops(Net net) {
            this.net = net;
        }

        void look() {
            if (known) {
                return;
            }
            known = true;
            length = 0;
            upper = 0;
            lower = 1;
            linkCells();
            for (int start = 0; start < net.cells; start++) {
                if (!net.isFlop(start)) {
                    follow(start, start, 0, 1 << start, 0, 0);
                }
            }
            reduce();
        }

        /** The latches behind each latch, as bits, with the path to each. */
        private void linkCells() {
            Arrays.fill(next, 0);
            for (int p = 0; p < net.paths; p++) {
                int first = net.from[p];
                int second = net.to[p];
                if (!net.isFlop(first) && !net.isFlop(second)) {
                    next[first] |= 1 << second;
                    pathTo[first * CELLS + second] = p;
                }
            }
        }

        /** A loop begins with its least cell, so no cell below the start is gone to; rows come by numbers. */
        private void follow(int start, int cell, int depth, int seen, int delay, int shifts) {
            if (depth >= CELLS) {
                return;
            }
            row[depth] = cell;
            for (int second = start; second < net.cells; second++) {
                if ((next[cell] >> second & 1) == 0) {
                    continue;
                }
                int path = pathTo[cell * CELLS + second];
                int delayThen = delay + net.delayOf(path);
                int shiftsThen = shifts + net.shiftOf(path);
                if (second == start) {
                    weigh(depth + 1, delayThen, shiftsThen);
                } else if ((seen >> second & 1) == 0) {
                    follow(start, second, depth + 1, seen | 1 << second, delayThen, shiftsThen);
                }
            }
        }

        private void weigh(int cells, long delay, long shifts) {
            long more = delay * lower - upper * shifts;
            if (length == 0 || more > 0 || more == 0 && cells < length) {
                System.arraycopy(row, 0, slowest, 0, cells);
                length = cells;
                upper = delay;
                lower = shifts;
            }
        }

        private void reduce() {
            long divisor = upper;
            long rest = lower;
            for (int i = 0; i < UNIT && rest > 0; i++) {
                long left = divisor % rest;
                divisor = rest;
                rest = left;
            }
            if (divisor > 0) {
                upper /= divisor;
                lower /= divisor;
            }
        }

        int fewestBreaks() {
            linkCells();
            int latches = net.latches();
            int best = latches;
            for (int set = 0; set < latches; set++) {
                boolean fewer = Integer.bitCount(set) < Integer.bitCount(best);
                if (fewer && (set & ~latches) == 0 && !hasLoop(latches & ~set)) {
                    best = set;
                }
            }
            return best;
        }

        /** Takes away latches that lead to none of the others, till only what leads round is left. */
        private boolean hasLoop(int cells) {
            int left = cells;
            for (int round = 0; round < CELLS; round++) {
                int ahead = left;
                for (int c = 0; c < net.cells; c++) {
                    if ((next[c] & left) == 0) {
                        left &= ~(1 << c);
                    }
                }
                if (left == ahead) {
                    break;
                }
            }
            return left != 0;
        }
    }

    /**
     * Whether a net is good at a period. If it isn't, a CUT tells why: a row of paths from one that leaves at 0
     * to a cell that fails by it, or a loop that feeds itself. The cut's need is at most the period times its
     * span (its shifts, and the width of a latch it ends at) wherever the net is good.
     */
    private static final class Trial {
        private final Net net;
        private final int[] delay = new int[PATHS];
        private final int[] shift = new int[PATHS];
        private final int[] weight = new int[PATHS];
        private final int[] leaves = new int[CELLS];
        private final int[] limit = new int[CELLS];
        private final int[] lead = new int[CELLS];
        private final int[] cut = new int[CELLS + 1];
        private int cutLength;
        private int cutNeed;
        private int cutWidth;

        Trial(Net net) {
            this.net = net;
        }

        /** Takes delays and shifts from the net; stands ahead of holds() whenever they have changed. */
        void load() {
            for (int p = 0; p < net.paths; p++) {
                delay[p] = net.delayOf(p);
                shift[p] = net.shiftOf(p);
            }
        }

        boolean holds(int period) {
            if (!begin(period)) {
                return false;
            }
            int risen = NONE;
            for (int pass = 0; pass <= net.cells; pass++) {
                risen = NONE;
                for (int p = 0; p < net.paths; p++) {
                    int goal = net.to[p];
                    int late = leaves[net.from[p]] + weight[p];
                    if (late > limit[goal]) {
                        cutAt(p);
                        return false;
                    }
                    if (late > leaves[goal]) {
                        leaves[goal] = late;
                        lead[goal] = p;
                        risen = p;
                    }
                }
                if (risen == NONE) {
                    return true;
                }
            }
            cutAt(risen);
            return false;
        }

        private boolean begin(int period) {
            for (int p = 0; p < net.paths; p++) {
                weight[p] = delay[p] - shift[p] * period;
            }
            for (int c = 0; c < net.cells; c++) {
                leaves[c] = 0;
                lead[c] = NONE;
                limit[c] = net.limitOf(c, period);
                if (limit[c] < 0 && !net.isFlop(c)) {
                    forgetCut();
                    endCut(c);
                    return false;
                }
            }
            return true;
        }

        /** More leads than cells, one behind another, can only be those of a loop. */
        private void cutAt(int last) {
            int path = last;
            forgetCut();
            for (int i = 0; i <= net.cells && path != NONE; i++) {
                path = addToCut(path);
            }
            if (path == NONE) {
                endCut(net.to[last]);
            } else {
                cutLoop(path);
            }
        }

        private void cutLoop(int last) {
            int path = last;
            forgetCut();
            for (int i = 0; i < net.cells && path != NONE; i++) {
                path = addToCut(path);
                if (path == last) {
                    break;
                }
            }
        }

        /** The path that leads to where this one is from. */
        private int addToCut(int path) {
            cut[cutLength] = path;
            cutLength++;
            cutNeed += delay[path];
            return lead[net.from[path]];
        }

        private void endCut(int cell) {
            cutNeed += UNIT * net.setup[cell];
            cutWidth = net.isFlop(cell) ? 0 : net.width[net.phaseOf[cell]];
        }

        void forgetCut() {
            cutLength = 0;
            cutNeed = 0;
            cutWidth = 0;
        }

        private int cutSpan() {
            int span = cutWidth;
            for (int i = 0; i < cutLength; i++) {
                span += net.shiftOf(cut[i]);
            }
            return span;
        }

        /** By how much the cut is beyond a period, as the net opens now; above 0: it isn't good. */
        int beyond(int period) {
            return cutNeed - period * cutSpan();
        }

        boolean cutHas(int path) {
            for (int i = 0; i < cutLength; i++) {
                if (cut[i] == path) {
                    return true;
                }
            }
            return false;
        }

        /** By how much the cut's need grows with work that goes over a cell: 1, 0 or -1 a unit. */
        int cutSlope(int cell) {
            if (cutLength == 0) {
                return 0;
            }
            int ends = net.to[cut[0]] == cell ? 1 : 0;
            int begins = net.from[cut[cutLength - 1]] == cell ? 1 : 0;
            return ends - begins;
        }

        /** The least period low .. high by which it is good; each cut tells the least one that it allows. */
        int firstGood(int low, int high) {
            int period = low;
            for (int i = 0; i < LONGEST_PERIOD && period <= high; i++) {
                if (holds(period)) {
                    return period;
                }
                period = Math.max(period + 1, roundedUp(cutNeed, cutSpan()));
            }
            return NONE;
        }
    }

    /** What hangs on the least period; the net is changed for it and put back. */
    private static final class Search {
        private static final int FACTOR = 1103515245;
        private static final int ADDEND = 12345;
        private static final int LOW_BITS = 0x7fffffff;

        private final Net net;
        private final Times times;
        private final Trial trial;
        private final int[] keptMost = new int[PATHS];
        private final int[] keptOpens = new int[PHASES];

        Search(Net net, Times times) {
            this.net = net;
            this.times = times;
            this.trial = new Trial(net);
        }

        int shortestPeriod() {
            trial.load();
            return trial.firstGood(1, LONGEST_PERIOD);
        }

        /** Each cut by the path tells how much less its most must be, all other cuts that none helps. */
        int slowestDelay(int path) {
            int was = net.most[path];
            int answer = LACKING;
            int most = LONGEST_DELAY;
            for (int i = 0; i <= LONGEST_DELAY && most >= net.least[path]; i++) {
                net.most[path] = most;
                trial.load();
                if (trial.holds(net.period)) {
                    answer = most;
                    break;
                }
                if (!trial.cutHas(path)) {
                    break;
                }
                most -= Math.max(1, roundedUp(trial.beyond(net.period), UNIT));
            }
            net.most[path] = was;
            return answer;
        }

        int gainOf(int path) {
            int now = shortestPeriod();
            if (now == NONE) {
                return LACKING;
            }
            int was = net.most[path];
            net.most[path] = net.least[path];
            int then = shortestPeriod();
            net.most[path] = was;
            return now - then;
        }

        /** The best opening of one phase, or (other is not NONE) of two, as bestTwo tells them. */
        int bestOpening(int one, int other) {
            int floor = periodByFullShifts();
            if (floor == NONE) {
                return LACKING;
            }
            System.arraycopy(net.opens, 0, keptOpens, 0, PHASES);
            trial.forgetCut();
            int inner = other == NONE ? 1 : UNIT;
            int best = LACKING;
            int goal = LONGEST_PERIOD;
            for (int i = 0; i < UNIT * inner && goal >= floor; i++) {
                net.opens[one] = i / inner;
                if (other != NONE) {
                    net.opens[other] = i % inner;
                }
                if (isGoodAt(goal)) {
                    best = i;
                    goal = trial.firstGood(floor, goal) - 1;
                }
            }
            System.arraycopy(keptOpens, 0, net.opens, 0, PHASES);
            return best;
        }

        /** No shift is above 64, and more shift never harms: no opening has a lesser period than this. */
        private int periodByFullShifts() {
            System.arraycopy(net.opens, 0, keptOpens, 0, PHASES);
            Arrays.fill(net.opens, 0);
            trial.load();
            int least = trial.firstGood(1, LONGEST_PERIOD);
            System.arraycopy(keptOpens, 0, net.opens, 0, PHASES);
            return least;
        }

        /** Mostly the last cut still tells that it isn't good, which spares looking at the whole net. */
        private boolean isGoodAt(int period) {
            if (trial.beyond(period) > 0) {
                return false;
            }
            trial.load();
            return trial.holds(period);
        }

        /** What is good at a period is so at greater ones: the least one is found by halves. */
        int bestMoving(int cell) {
            int best = moveNearZero(cell, LONGEST_PERIOD);
            int low = 1;
            int high = best == NO_MOVE ? 0 : LONGEST_PERIOD - 1;
            for (int i = 0; i < 32 && low <= high; i++) {
                int period = (low + high) / 2;
                int move = moveNearZero(cell, period);
                if (move == NO_MOVE) {
                    low = period + 1;
                } else {
                    best = move;
                    high = period - 1;
                }
            }
            return best;
        }

        /** The moves by which it is good at a period are a row: each cut bounds it from one side, or ends it. */
        private int moveNearZero(int cell, int period) {
            int low = net.leastMove(cell);
            int high = net.greatestMove(cell);
            for (int i = 0; i <= 2 * LONGEST_DELAY && low <= high; i++) {
                int move = Math.min(Math.max(0, low), high);
                net.moveWork(cell, move);
                trial.load();
                boolean good = trial.holds(period);
                net.moveWork(cell, -move);
                if (good) {
                    return move;
                }
                int slope = trial.cutSlope(cell);
                int step = Math.max(1, roundedUp(trial.beyond(period), UNIT));
                if (slope == 0) {
                    return NO_MOVE;
                } else if (slope > 0) {
                    high = move - step;
                } else {
                    low = move + step;
                }
            }
            return NO_MOVE;
        }

        int byChance(int seed, int n, int what) {
            System.arraycopy(net.most, 0, keptMost, 0, PATHS);
            int number = seed;
            int answer = 0;
            for (int i = 0; i < n; i++) {
                number = drawDelays(number);
                if (what == 2) {
                    answer = Math.max(answer, periodFrom(answer));
                } else if (what == 0 ? drawnIsGood() : drawnIsForever()) {
                    answer++;
                }
            }
            System.arraycopy(keptMost, 0, net.most, 0, PATHS);
            times.known = false;
            return answer;
        }

        private int drawDelays(int seed) {
            int number = seed;
            for (int p = 0; p < net.paths; p++) {
                number = number * FACTOR + ADDEND & LOW_BITS;
                int choices = Math.max(keptMost[p] - net.least[p] + 1, 1);
                net.most[p] = net.least[p] + (number >> 16) % choices;
            }
            return number;
        }

        private int periodFrom(int low) {
            trial.load();
            return trial.firstGood(Math.max(low, 1), LONGEST_PERIOD);
        }

        private boolean drawnIsGood() {
            trial.load();
            return trial.holds(net.period);
        }

        private boolean drawnIsForever() {
            times.known = false;
            return times.isForever();
        }
    }
}
