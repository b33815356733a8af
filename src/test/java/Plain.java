import java.util.ArrayDeque;
import java.util.ArrayList;
import java.util.Comparator;
import java.util.Deque;
import java.util.HashMap;
import java.util.List;
import java.util.Map;
import java.util.NoSuchElementException;
import java.util.regex.Matcher;
import java.util.regex.Pattern;

/**
 * The document once more, as plainly as it can be told: every search tries all there is, every loop is walked. Slow,
 * and meant to share no thought with LatchTimes beyond the document's words.
 */
final class Plain {
    static final long NO = Long.MIN_VALUE;

    static final class Phase {
        String name;
        int opens;
        int width;
    }

    static final class Cell {
        String name;
        int phase;
        int setup;
        int hold;
        int through;
        boolean flop;
    }

    static final class Path {
        int from;
        int to;
        int most;
        int least;
    }

    static final class State {
        int period = 100;
        int skew = 0;
        int seed = 0;
        List<Phase> phases = new ArrayList<>();
        List<Cell> cells = new ArrayList<>();
        List<Path> paths = new ArrayList<>();

        State copy() {
            State s = new State();
            s.period = period;
            s.skew = skew;
            s.seed = seed;
            for (Phase p : phases) {
                Phase q = new Phase();
                q.name = p.name;
                q.opens = p.opens;
                q.width = p.width;
                s.phases.add(q);
            }
            for (Cell c : cells) {
                Cell d = new Cell();
                d.name = c.name;
                d.phase = c.phase;
                d.setup = c.setup;
                d.hold = c.hold;
                d.through = c.through;
                d.flop = c.flop;
                s.cells.add(d);
            }
            for (Path p : paths) {
                Path q = new Path();
                q.from = p.from;
                q.to = p.to;
                q.most = p.most;
                q.least = p.least;
                s.paths.add(q);
            }
            return s;
        }
    }

    static final class Fault extends Exception {
        private static final long serialVersionUID = 1L;
        final int code;
        final int place;

        Fault(int code, int place) {
            super(code + " at " + place);
            this.code = code;
            this.place = place;
        }
    }

    State now = new State();
    private final StringBuilder tape = new StringBuilder();
    private final Deque<State> past = new ArrayDeque<>();
    private State image = null;
    private int fault = 0;
    private int place = -1;

    // ---- the text

    private static final List<String> WORDS = List.of("period", "phase", "latch", "flop", "path", "skew", "seed");
    private static final Pattern TOKEN = Pattern.compile("[ \\n]*+([a-z]+|[0-9]+|[\\s\\S]|$)");

    private static final class Tokens {
        final String text;
        int at = 0;
        int place;
        String token;

        Tokens(String text) {
            this.text = text;
        }

        /** The next token; an empty one at the end. */
        String next() {
            Matcher m = TOKEN.matcher(text);
            if (!m.find(at) || m.start() != at) {
                throw new IllegalStateException("token");
            }
            at = m.end();
            token = m.group(1);
            place = token.isEmpty() ? text.length() : m.start(1);
            return token;
        }

        String name() throws Fault {
            next();
            if (!token.matches("[a-z]{1,6}") || WORDS.contains(token)) {
                throw new Fault(1, place);
            }
            return token;
        }

        int number(int low, int high) throws Fault {
            next();
            if (!token.matches("[0-9]+")) {
                throw new Fault(1, place);
            }
            java.math.BigInteger n = new java.math.BigInteger(token);
            if (n.compareTo(java.math.BigInteger.valueOf(low)) < 0
                    || n.compareTo(java.math.BigInteger.valueOf(high)) > 0) {
                throw new Fault(2, place);
            }
            return n.intValue();
        }

        void stop() throws Fault {
            if (!next().equals(";")) {
                throw new Fault(1, place);
            }
        }
    }

    private int lines;

    private State parse(String text) throws Fault {
        State s = new State();
        Tokens t = new Tokens(text);
        Map<String, Integer> phaseNames = new HashMap<>();
        Map<String, Integer> cellNames = new HashMap<>();
        List<String> told = new ArrayList<>();
        lines = 0;
        while (!t.next().isEmpty()) {
            int word = t.place;
            String kind = t.token;
            if (!WORDS.contains(kind)) {
                throw new Fault(1, word);
            }
            switch (kind) {
                case "period":
                case "skew":
                case "seed":
                    if (told.contains(kind)) {
                        throw new Fault(3, word);
                    }
                    told.add(kind);
                    if (kind.equals("period")) {
                        s.period = t.number(1, 9999);
                    } else if (kind.equals("skew")) {
                        s.skew = t.number(0, 99);
                    } else {
                        s.seed = t.number(0, 99999);
                    }
                    break;
                case "phase": {
                    if (s.phases.size() == 4) {
                        throw new Fault(2, word);
                    }
                    Phase p = new Phase();
                    p.name = t.name();
                    if (phaseNames.containsKey(p.name)) {
                        throw new Fault(3, t.place);
                    }
                    phaseNames.put(p.name, s.phases.size());
                    p.opens = t.number(0, 63);
                    p.width = t.number(1, 63);
                    s.phases.add(p);
                    break;
                }
                case "latch":
                case "flop": {
                    if (s.cells.size() == 10) {
                        throw new Fault(2, word);
                    }
                    Cell c = new Cell();
                    c.name = t.name();
                    if (cellNames.containsKey(c.name)) {
                        throw new Fault(3, t.place);
                    }
                    cellNames.put(c.name, s.cells.size());
                    String phase = t.name();
                    if (!phaseNames.containsKey(phase)) {
                        throw new Fault(4, t.place);
                    }
                    c.phase = phaseNames.get(phase);
                    c.setup = t.number(0, 99);
                    c.hold = t.number(0, 99);
                    c.through = t.number(0, 99);
                    c.flop = kind.equals("flop");
                    s.cells.add(c);
                    break;
                }
                default: {
                    if (s.paths.size() == 24) {
                        throw new Fault(2, word);
                    }
                    Path p = new Path();
                    String first = t.name();
                    if (!cellNames.containsKey(first)) {
                        throw new Fault(4, t.place);
                    }
                    String second = t.name();
                    if (!cellNames.containsKey(second)) {
                        throw new Fault(4, t.place);
                    }
                    p.from = cellNames.get(first);
                    p.to = cellNames.get(second);
                    for (Path q : s.paths) {
                        if (q.from == p.from && q.to == p.to) {
                            throw new Fault(3, t.place);
                        }
                    }
                    p.most = t.number(0, 999);
                    p.least = t.number(0, p.most);
                    s.paths.add(p);
                }
            }
            t.stop();
            lines++;
        }
        return s;
    }

    int feed(int... numbers) {
        if (tape.length() + 20 > 700) {
            return -1;
        }
        for (int n : numbers) {
            for (byte b : java.nio.ByteBuffer.allocate(4).putInt(n).array()) {
                tape.append((char) (b & 255));
            }
        }
        return tape.length();
    }

    int text(int n) {
        if (n < 0 || n > tape.length()) {
            return -2;
        }
        String text = tape.substring(0, n);
        tape.setLength(0);
        try {
            now = parse(text);
        } catch (Fault f) {
            fault = f.code;
            place = f.place;
            return -1;
        }
        fault = 0;
        place = -1;
        past.clear();
        image = null;
        return lines;
    }

    int fault(int what) {
        return what == 0 ? fault : what == 1 ? place : -1;
    }

    int named(int kind, int letters) {
        List<String> names = new ArrayList<>();
        if (kind == 0) {
            now.phases.forEach(p -> names.add(p.name));
        } else if (kind == 1) {
            now.cells.forEach(c -> names.add(c.name));
        }
        for (int i = 0; i < names.size(); i++) {
            int code = 0;
            for (int k = 0; k < 6; k++) {
                code = code * 32 + (k < names.get(i).length() ? names.get(i).charAt(k) - 96 : 0);
            }
            if (code == letters) {
                return i;
            }
        }
        return -1;
    }

    // ---- changes

    private void push() {
        past.addLast(now.copy());
        if (past.size() > 20) {
            past.removeFirst();
        }
    }

    private boolean isPhase(int i) {
        return i >= 0 && i < now.phases.size();
    }

    private boolean isCell(int i) {
        return i >= 0 && i < now.cells.size();
    }

    private boolean isPath(int i) {
        return i >= 0 && i < now.paths.size();
    }

    private static boolean in(int n, int low, int high) {
        return n >= low && n <= high;
    }

    int period(int n) {
        if (!in(n, 1, 9999)) {
            return -1;
        }
        push();
        int was = now.period;
        now.period = n;
        return was;
    }

    boolean phase(int phase, int opens, int width) {
        if (!isPhase(phase) || !in(opens, 0, 63) || !in(width, 1, 63)) {
            return false;
        }
        push();
        now.phases.get(phase).opens = opens;
        now.phases.get(phase).width = width;
        return true;
    }

    boolean delay(int path, int most, int least) {
        if (!isPath(path) || !in(most, 0, 999) || !in(least, 0, most)) {
            return false;
        }
        push();
        now.paths.get(path).most = most;
        now.paths.get(path).least = least;
        return true;
    }

    int flop(int cell) {
        if (!isCell(cell)) {
            return -1;
        }
        push();
        now.cells.get(cell).flop = !now.cells.get(cell).flop;
        return now.cells.get(cell).flop ? 1 : 0;
    }

    int skew(int n) {
        if (!in(n, 0, 99)) {
            return -1;
        }
        push();
        int was = now.skew;
        now.skew = n;
        return was;
    }

    private static State moved(State s, int cell, int n) {
        State t = s.copy();
        for (Path p : t.paths) {
            if (p.from == p.to) {
                continue;
            }
            if (p.to == cell) {
                p.most += n;
                p.least += n;
            } else if (p.from == cell) {
                p.most -= n;
                p.least -= n;
            }
            if (!in(p.most, 0, 999) || !in(p.least, 0, 999)) {
                return null;
            }
        }
        return t;
    }

    boolean move(int cell, int n) {
        if (!isCell(cell) || !in(n, -999, 999)) {
            return false;
        }
        State t = moved(now, cell, n);
        if (t == null) {
            return false;
        }
        push();
        now = t;
        return true;
    }

    int undo() {
        if (past.isEmpty()) {
            return -1;
        }
        now = past.removeLast();
        return past.size();
    }

    int keep() {
        image = now.copy();
        return now.period;
    }

    int back() {
        if (image == null) {
            return -1;
        }
        now = image.copy();
        past.clear();
        return now.period;
    }

    int count(int what) {
        int flops = (int) now.cells.stream().filter(c -> c.flop).count();
        int[] all = {now.phases.size(), now.cells.size(), now.paths.size(), now.period, flops, past.size(),
            tape.length(), now.skew, now.cells.size() - flops};
        return in(what, 0, 8) ? all[what] : -1;
    }

    // ---- what is told

    int cell(int cell, int what) {
        if (!isCell(cell)) {
            throw new IndexOutOfBoundsException();
        }
        Cell c = now.cells.get(cell);
        switch (what) {
            case 0: return c.phase;
            case 1: return c.setup;
            case 2: return c.hold;
            case 3: return c.through;
            case 4: return c.flop ? 1 : 0;
            case 5: return (int) now.paths.stream().filter(p -> p.to == cell).count();
            case 6: return (int) now.paths.stream().filter(p -> p.from == cell).count();
            default: throw new NoSuchElementException();
        }
    }

    int path(int path, int what) {
        if (!isPath(path) || !in(what, 0, 4)) {
            return -1;
        }
        Path p = now.paths.get(path);
        return new int[] {p.from, p.to, p.most, p.least, shift(now, p)}[what];
    }

    int opens(int phase, int what) {
        if (!isPhase(phase) || !in(what, 0, 1)) {
            return -1;
        }
        return what == 0 ? now.phases.get(phase).opens : now.phases.get(phase).width;
    }

    // ---- times

    static int shift(State s, Path p) {
        int place = s.phases.get(s.cells.get(p.from).phase).opens;
        int goal = s.phases.get(s.cells.get(p.to).phase).opens;
        int steps = 0;
        do {
            place = (place + 1) % 64;
            steps++;
        } while (place != goal);
        return steps;
    }

    static long weight(State s, Path p) {
        return 64L * (s.cells.get(p.from).through + p.most + s.skew) - (long) shift(s, p) * s.period;
    }

    static long width(State s, Cell c) {
        return c.flop ? 0 : (long) s.phases.get(c.phase).width * s.period;
    }

    static long[] comes(State s, long[] leaves) {
        long[] comes = new long[s.cells.size()];
        for (int c = 0; c < comes.length; c++) {
            Cell cell = s.cells.get(c);
            comes[c] = cell.flop ? -64L * cell.setup : 0;
            boolean first = true;
            for (Path p : s.paths) {
                if (p.to == c) {
                    long t = leaves[p.from] + weight(s, p);
                    comes[c] = first || t > comes[c] ? t : comes[c];
                    first = false;
                }
            }
        }
        return comes;
    }

    static long[] next(State s, long[] leaves) {
        long[] comes = comes(s, leaves);
        for (int c = 0; c < comes.length; c++) {
            comes[c] = s.cells.get(c).flop || comes[c] < 0 ? 0 : comes[c];
        }
        return comes;
    }

    static long room(State s, int c, long leaves, long comes) {
        Cell cell = s.cells.get(c);
        return cell.flop ? -64L * cell.setup - comes : width(s, cell) - 64L * cell.setup - leaves;
    }

    /** All loops of latches, as rows of cells that begin with the least one. */
    static List<List<Integer>> loops(State s) {
        List<List<Integer>> all = new ArrayList<>();
        for (int c = 0; c < s.cells.size(); c++) {
            if (!s.cells.get(c).flop) {
                List<Integer> row = new ArrayList<>();
                row.add(c);
                walk(s, row, all);
            }
        }
        return all;
    }

    private static void walk(State s, List<Integer> row, List<List<Integer>> all) {
        int last = row.get(row.size() - 1);
        for (Path p : s.paths) {
            if (p.from != last) {
                continue;
            }
            if (p.to == row.get(0)) {
                all.add(new ArrayList<>(row));
            } else if (p.to > row.get(0) && !row.contains(p.to) && !s.cells.get(p.to).flop) {
                row.add(p.to);
                walk(s, row, all);
                row.remove(row.size() - 1);
            }
        }
    }

    static Path between(State s, int first, int second) {
        for (Path p : s.paths) {
            if (p.from == first && p.to == second) {
                return p;
            }
        }
        throw new IllegalStateException("no path");
    }

    static boolean forever(State s) {
        return forever(s, loops(s));
    }

    static boolean forever(State s, List<List<Integer>> loops) {
        for (List<Integer> row : loops) {
            long sum = 0;
            for (int i = 0; i < row.size(); i++) {
                sum += weight(s, between(s, row.get(i), row.get((i + 1) % row.size())));
            }
            if (sum > 0) {
                return true;
            }
        }
        return false;
    }

    /** The least times; null: forever. */
    static long[] leaves(State s, List<List<Integer>> loops) {
        if (forever(s, loops)) {
            return null;
        }
        long[] leaves = new long[s.cells.size()];
        while (true) {
            long[] then = next(s, leaves);
            if (java.util.Arrays.equals(then, leaves)) {
                return leaves;
            }
            leaves = then;
        }
    }

    static long[] leaves(State s) {
        return leaves(s, loops(s));
    }

    static int unmet(State s, long[] leaves) {
        long[] comes = comes(s, leaves);
        int bits = 0;
        for (int c = 0; c < comes.length; c++) {
            if (room(s, c, leaves[c], comes[c]) < 0) {
                bits |= 1 << c;
            }
        }
        return bits;
    }

    static boolean good(State s, List<List<Integer>> loops) {
        long[] leaves = leaves(s, loops);
        return leaves != null && unmet(s, leaves) == 0;
    }

    static boolean good(State s) {
        return good(s, loops(s));
    }

    long leaves(int cell) {
        if (!isCell(cell)) {
            return -1;
        }
        long[] l = leaves(now);
        return l == null ? -2 : l[cell];
    }

    long comes(int cell) {
        long[] l = leaves(now);
        return !isCell(cell) || l == null ? NO : comes(now, l)[cell];
    }

    long room(int cell) {
        long[] l = leaves(now);
        return !isCell(cell) || l == null ? NO : room(now, cell, l[cell], comes(now, l)[cell]);
    }

    int from(int cell) {
        if (!isCell(cell)) {
            return -1;
        }
        long[] l = leaves(now);
        if (l == null) {
            return -2;
        }
        int best = -2;
        long latest = 0;
        for (int i = 0; i < now.paths.size(); i++) {
            Path p = now.paths.get(i);
            long t = l[p.from] + weight(now, p);
            if (p.to == cell && (best == -2 || t > latest)) {
                best = i;
                latest = t;
            }
        }
        return best;
    }

    int chain(int cell, int i) {
        if (!isCell(cell) || i < 0) {
            return -1;
        }
        long[] l = leaves(now);
        if (l == null) {
            return -2;
        }
        List<Integer> row = new ArrayList<>();
        int c = cell;
        while (!row.contains(c)) {
            row.add(c);
            boolean source = now.cells.get(c).flop || l[c] == 0;
            if (source && row.size() > 1 || from(c) == -2) {
                break;
            }
            c = now.paths.get(from(c)).from;
        }
        return i < row.size() ? row.get(i) : -2;
    }

    int which(int what) {
        if (!in(what, 0, 1)) {
            return -1;
        }
        long[] l = leaves(now);
        if (l == null) {
            return -2;
        }
        if (what == 1) {
            return unmet(now, l);
        }
        int bits = 0;
        for (int c = 0; c < l.length; c++) {
            bits |= !now.cells.get(c).flop && l[c] > 0 ? 1 << c : 0;
        }
        return bits;
    }

    int good() {
        long[] l = leaves(now);
        return l == null ? 0 : unmet(now, l) == 0 ? 2 : 1;
    }

    static long gap(State s, Path p) {
        Cell a = s.cells.get(p.from);
        Cell b = s.cells.get(p.to);
        long early = 64L * a.through + 64L * p.least - 64L * s.skew - (long) shift(s, p) * s.period;
        return early + 64L * s.period - width(s, b) - 64L * b.hold;
    }

    static int pad(State s, Path p) {
        int more = 0;
        while (gap(s, p) + 64L * more < 0) {
            more++;
        }
        return more;
    }

    long gap(int path) {
        return isPath(path) ? gap(now, now.paths.get(path)) : NO;
    }

    int pad(int path) {
        return isPath(path) ? pad(now, now.paths.get(path)) : -1;
    }

    int pads() {
        return now.paths.stream().mapToInt(p -> pad(now, p)).sum();
    }

    long wave(int cell, int n) {
        if (!isCell(cell) || !in(n, 0, 200)) {
            return NO;
        }
        long[] l = new long[now.cells.size()];
        for (int i = 0; i < n; i++) {
            l = next(now, l);
        }
        return l[cell];
    }

    int fails(int cell) {
        if (!isCell(cell)) {
            return -1;
        }
        long[] l = new long[now.cells.size()];
        for (int n = 1; n <= 200; n++) {
            long[] comes = comes(now, l);
            l = next(now, l);
            if (room(now, cell, l[cell], comes[cell]) < 0) {
                return n;
            }
        }
        return -2;
    }

    // ---- loops

    private static long[] turn(State s, List<Integer> row) {
        long up = 0;
        long down = 0;
        for (int i = 0; i < row.size(); i++) {
            Path p = between(s, row.get(i), row.get((i + 1) % row.size()));
            up += 64L * (s.cells.get(p.from).through + p.most + s.skew);
            down += shift(s, p);
        }
        long g = java.math.BigInteger.valueOf(up).gcd(java.math.BigInteger.valueOf(down)).longValue();
        return new long[] {up / g, down / g};
    }

    private List<Integer> slowest() {
        return loops(now).stream().min((a, b) -> {
            long[] s = turn(now, a);
            long[] t = turn(now, b);
            int by = Long.compare(t[0] * s[1], s[0] * t[1]);
            if (by == 0) {
                by = a.size() - b.size();
            }
            for (int i = 0; by == 0 && i < a.size(); i++) {
                by = a.get(i) - b.get(i);
            }
            return by;
        }).orElse(null);
    }

    long ratio(boolean under) {
        List<Integer> row = slowest();
        if (row == null) {
            return under ? 1 : 0;
        }
        return turn(now, row)[under ? 1 : 0];
    }

    int loop(int i) {
        if (i < 0) {
            return -1;
        }
        List<Integer> row = slowest();
        return row == null || i >= row.size() ? -2 : row.get(i);
    }

    int breaks() {
        List<List<Integer>> all = loops(now);
        int best = -1;
        for (int set = 0; set < 1 << now.cells.size(); set++) {
            if (best >= 0 && Integer.bitCount(set) >= Integer.bitCount(best)) {
                continue;
            }
            boolean fits = true;
            for (int c = 0; c < now.cells.size(); c++) {
                fits &= (set >> c & 1) == 0 || !now.cells.get(c).flop;
            }
            for (List<Integer> row : all) {
                boolean broken = false;
                for (int c : row) {
                    broken |= (set >> c & 1) != 0;
                }
                fits &= broken;
            }
            if (fits) {
                best = set;
            }
        }
        return best;
    }

    // ---- searches

    /** The least period low .. high by which it is good; 0: none. */
    static int least(State s, int high) {
        State t = s.copy();
        List<List<Integer>> loops = loops(t);
        for (int n = 1; n <= high; n++) {
            t.period = n;
            if (good(t, loops)) {
                return n;
            }
        }
        return 0;
    }

    int leastPeriod() {
        int n = least(now, 9999);
        return n == 0 ? -2 : n;
    }

    int slower(int path) {
        if (!isPath(path)) {
            return -1;
        }
        State t = now.copy();
        for (int most = 999; most >= t.paths.get(path).least; most--) {
            t.paths.get(path).most = most;
            if (good(t)) {
                return most;
            }
        }
        return -2;
    }

    int bestOpens(int phase) {
        if (!isPhase(phase)) {
            return -1;
        }
        State t = now.copy();
        int best = -2;
        int least = 10000;
        for (int a = 0; a < 64; a++) {
            t.phases.get(phase).opens = a;
            int n = least(t, least - 1);
            if (n != 0) {
                best = a;
                least = n;
            }
        }
        return best;
    }

    int bestTwo(int one, int other) {
        if (!isPhase(one) || !isPhase(other) || one == other) {
            return -1;
        }
        State t = now.copy();
        int best = -2;
        int least = 10000;
        for (int a = 0; a < 64; a++) {
            for (int b = 0; b < 64; b++) {
                t.phases.get(one).opens = a;
                t.phases.get(other).opens = b;
                int n = least(t, least - 1);
                if (n != 0) {
                    best = 64 * a + b;
                    least = n;
                }
            }
        }
        return best;
    }

    int gain(int path) {
        if (!isPath(path)) {
            return -1;
        }
        int n = least(now, 9999);
        if (n == 0) {
            return -2;
        }
        State t = now.copy();
        t.paths.get(path).most = t.paths.get(path).least;
        return n - least(t, 9999);
    }

    int bestMove(int cell) {
        if (!isCell(cell)) {
            return -3000;
        }
        int best = -2000;
        int least = 10000;
        for (int i = 0; i <= 999; i++) {
            for (int n : i == 0 ? new int[] {0} : new int[] {-i, i}) {
                State t = moved(now, cell, n);
                int p = t == null ? 0 : least(t, least - 1);
                if (p != 0) {
                    best = n;
                    least = p;
                }
            }
        }
        return best;
    }

    int leastWidth(int phase) {
        if (!isPhase(phase)) {
            return -1;
        }
        State t = now.copy();
        for (int w = 1; w <= 63; w++) {
            t.phases.get(phase).width = w;
            if (good(t)) {
                return w;
            }
        }
        return -2;
    }

    int flops() {
        if (!good(now)) {
            return -2;
        }
        int best = 0;
        for (int set = 0; set < 1 << now.cells.size(); set++) {
            if (Integer.bitCount(set) <= Integer.bitCount(best)) {
                continue;
            }
            State t = now.copy();
            boolean fits = true;
            for (int c = 0; c < t.cells.size(); c++) {
                if ((set >> c & 1) != 0) {
                    fits &= !t.cells.get(c).flop;
                    t.cells.get(c).flop = true;
                }
            }
            if (fits && good(t)) {
                best = set;
            }
        }
        return best;
    }

    long near(int path) {
        long[] l = leaves(now);
        if (!isPath(path) || l == null) {
            return NO;
        }
        Path p = now.paths.get(path);
        long t = l[p.from] + weight(now, p);
        return room(now, p.to, Math.max(t, 0), t);
    }

    int nearest(int k) {
        if (k < 0) {
            return -1;
        }
        if (leaves(now) == null || k >= now.paths.size()) {
            return -2;
        }
        List<Integer> all = new ArrayList<>();
        for (int i = 0; i < now.paths.size(); i++) {
            all.add(i);
        }
        all.sort(Comparator.comparingLong(this::near));
        return all.get(k);
    }

    int event(int k, int what) {
        List<int[]> all = new ArrayList<>();
        for (int i = 0; i < now.phases.size(); i++) {
            Phase p = now.phases.get(i);
            int whole = 64 * now.period;
            all.add(new int[] {p.opens * now.period % whole, i, 1});
            all.add(new int[] {(p.opens + p.width) * now.period % whole, i, 0});
        }
        all.sort(Comparator.<int[]>comparingInt(e -> e[0]).thenComparingInt(e -> e[2]).thenComparingInt(e -> e[1]));
        return !in(k, 0, all.size() - 1) || !in(what, 0, 2) ? -1 : all.get(k)[what];
    }

    int open(int time) {
        if (!in(time, 0, 64 * now.period - 1)) {
            return -1;
        }
        int count = 0;
        for (Phase p : now.phases) {
            for (int start = p.opens * now.period - 64 * now.period; start <= time; start += 64 * now.period) {
                if (time >= start && time < start + p.width * now.period) {
                    count++;
                }
            }
        }
        return count;
    }

    int chance(int seed, int n, int what) {
        if (seed < -1 || !in(n, 1, 40) || !in(what, 0, 2)) {
            return -1;
        }
        long last = seed == -1 ? now.seed : seed;
        int answer = 0;
        for (int i = 0; i < n; i++) {
            State t = now.copy();
            for (Path p : t.paths) {
                last = (last * 1103515245L + 12345L) % (1L << 31);
                p.most = p.least + (int) (last / 65536 % (p.most - p.least + 1));
            }
            if (what == 0) {
                answer += good(t) ? 1 : 0;
            } else if (what == 1) {
                answer += forever(t) ? 1 : 0;
            } else {
                answer = Math.max(answer, least(t, 9999));
            }
        }
        return answer;
    }
}
