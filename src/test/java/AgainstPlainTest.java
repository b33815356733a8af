import java.util.ArrayList;
import java.util.List;
import java.util.NoSuchElementException;
import java.util.Random;

/** Runs of calls by chance (always the same ones) on LatchTimes and on Plain: each answer must be the same. */
public final class AgainstPlainTest {
    private static int wrong = 0;
    private static int asked = 0;

    private final Random random;
    private final LatchTimes x = new LatchTimes();
    private final Plain y = new Plain();
    private final List<String> told = new ArrayList<>();
    private final boolean slow;
    private boolean hard = false;
    private boolean wide = false;

    private AgainstPlainTest(long seed, boolean slow) {
        // seeds that lie side by side would begin alike
        this.random = new Random(seed * 0x9E3779B97F4A7C15L >>> 7);
        this.slow = slow;
    }

    /** Long delays by short shifts, so that the least period is near 9999, or there is none. */
    private AgainstPlainTest hard() {
        hard = true;
        return this;
    }

    /** SETUP, HOLD, THROUGH and SKEW of all that they can be. */
    private AgainstPlainTest wide() {
        wide = true;
        return this;
    }

    private void due(String call, long got, long want) {
        asked++;
        told.add(call + " = " + got);
        if (got != want && wrong++ < 20) {
            System.out.println("after " + told + ": " + call + " answered " + got + ", due is " + want);
        }
    }

    private void due(String call, boolean got, boolean want) {
        due(call, got ? 1 : 0, want ? 1 : 0);
    }

    private int any(int low, int high) {
        return low + random.nextInt(high - low + 1);
    }

    private void giveText(String text) {
        told.add("[" + text + "]");
        byte[] bytes = new byte[(text.length() + 19) / 20 * 20];
        for (int i = 0; i < text.length(); i++) {
            bytes[i] = (byte) text.charAt(i);
        }
        java.nio.ByteBuffer b = java.nio.ByteBuffer.wrap(bytes);
        for (int i = 0; i < bytes.length / 20; i++) {
            int[] n = {b.getInt(), b.getInt(), b.getInt(), b.getInt(), b.getInt()};
            due("feed", x.feed(n[0], n[1], n[2], n[3], n[4]), y.feed(n));
        }
        due("text(" + text.length() + ")", x.text(text.length()), y.text(text.length()));
        due("fault(0)", x.fault(0), y.fault(0));
        due("fault(1)", x.fault(1), y.fault(1));
    }

    /** A text that holds, of at most 700 bytes; now and then with equal openings, loops to itself, flops. */
    private List<String> tokensOfText() {
        List<String> t = new ArrayList<>();
        int scale = hard || random.nextInt(4) == 0 ? 999 : any(2, 40);
        int phases = random.nextInt(8) == 0 ? 1 : any(2, 4);
        int cells = any(1, slow ? 6 : 10);
        int flopShare = any(0, 4);
        int detail = wide ? 99 : random.nextInt(3) == 0 ? 0 : any(1, 9);
        add(t, "period " + any(1, 3 * scale) + " ;");
        for (int i = 0; i < phases; i++) {
            int opens = hard ? any(0, 12) : any(0, 3) * any(0, 21);
            add(t, "phase " + (char) ('p' + i) + " " + opens + " " + any(1, hard ? 12 : 63) + " ;");
        }
        for (int i = 0; i < cells; i++) {
            String kind = any(0, 9) < flopShare ? "flop " : "latch ";
            add(t, kind + (char) ('a' + i) + " " + (char) ('p' + any(0, phases - 1)) + " " + any(0, detail) + " "
                    + any(0, detail) + " " + any(0, detail) + " ;");
        }
        if (random.nextBoolean()) {
            add(t, "skew " + any(0, wide ? 99 : 3) + " ;");
        }
        if (random.nextBoolean()) {
            add(t, "seed " + any(0, 99999) + " ;");
        }
        List<String> pairs = new ArrayList<>();
        int wanted = any(0, slow ? 10 : 24);
        for (int i = 0; i < wanted && length(t) < 660; i++) {
            String pair = (char) ('a' + any(0, cells - 1)) + " " + (char) ('a' + any(0, cells - 1));
            if (pairs.contains(pair)) {
                continue;
            }
            pairs.add(pair);
            int most = any(0, scale);
            add(t, "path " + pair + " " + most + " " + any(0, most) + " ;");
        }
        return t;
    }

    /** As many PHASES, CELLS and paths as there can be. */
    private String fullText() {
        StringBuilder t = new StringBuilder("period " + any(10, 99) + ";");
        for (int i = 0; i < 4; i++) {
            t.append("phase ").append((char) ('p' + i)).append(" " + any(0, 63) + " " + any(1, 63) + ";");
        }
        for (int i = 0; i < 10; i++) {
            t.append(random.nextInt(5) == 0 ? "flop " : "latch ").append((char) ('a' + i)).append(' ');
            t.append((char) ('p' + any(0, 3))).append(" " + any(0, 9) + " " + any(0, 9) + " " + any(0, 9) + ";");
        }
        List<String> pairs = new ArrayList<>();
        while (pairs.size() < 24) {
            String pair = (char) ('a' + any(0, 9)) + " " + (char) ('a' + any(0, 9));
            if (!pairs.contains(pair)) {
                pairs.add(pair);
                int most = any(0, 40);
                t.append("path " + pair + " " + most + " " + any(0, most) + ";");
            }
        }
        return t.toString();
    }

    private static void add(List<String> tokens, String line) {
        tokens.addAll(List.of(line.split(" ")));
    }

    private static int length(List<String> tokens) {
        return String.join(" ", tokens).length();
    }

    private String joined(List<String> tokens) {
        StringBuilder b = new StringBuilder();
        for (int i = 0; i < tokens.size(); i++) {
            String s = tokens.get(i);
            boolean glued = s.equals(";") || i == 0 || tokens.get(i - 1).equals(";");
            b.append(glued && random.nextInt(8) > 0 ? "" : random.nextInt(30) == 0 ? "\n" : " ").append(s);
        }
        return b.length() > 700 ? b.substring(0, 700) : b.toString();
    }

    private static final String[] BAD = {"", ";", "abcdefg", "abcdef", "period", "phase", "latch", "flop", "path",
        "skew", "seed", "0", "64", "63", "99", "100", "999", "1000", "9999", "10000", "99999", "100000",
        "99999999999999999999", "007", "a", "b", "p", "q", "zz", "A", "_", "\t", "\r", "-1", "a1", "1a", "\u00e4",
        "\u0000", "periods"};

    private void spoil(List<String> tokens) {
        for (int i = any(1, 2); i > 0; i--) {
            int at = any(0, tokens.size() - 1);
            switch (random.nextInt(4)) {
                case 0:
                    tokens.set(at, BAD[random.nextInt(BAD.length)]);
                    break;
                case 1:
                    tokens.add(at, BAD[random.nextInt(BAD.length)]);
                    break;
                case 2:
                    tokens.remove(at);
                    if (tokens.isEmpty()) {
                        tokens.add(";");
                    }
                    break;
                default:
                    int from = Math.max(0, tokens.subList(0, at).lastIndexOf(";") + 1);
                    List<String> line = new ArrayList<>(tokens.subList(from, at + 1));
                    int goal = any(at, tokens.size() - 1);
                    while (goal < tokens.size() && !tokens.get(goal).equals(";")) {
                        goal++;
                    }
                    line.add(";");
                    tokens.addAll(Math.min(goal + 1, tokens.size()), line);
            }
        }
    }

    private void texts(int n) {
        for (int i = 0; i < n; i++) {
            List<String> tokens = tokensOfText();
            if (random.nextInt(5) > 0) {
                spoil(tokens);
            }
            String text = joined(tokens);
            if (random.nextInt(10) == 0) {
                text = text.substring(0, any(0, text.length()));
            }
            giveText(text);
            for (int what = 0; what < 9; what++) {
                due("count(" + what + ")", x.count(what), y.count(what));
            }
            told.clear();
        }
    }

    private static long thrown(boolean index) {
        return index ? 1L << 40 : 1L << 41;
    }

    private void askCell(int cell, int what) {
        long got;
        long want;
        try {
            got = x.cell(cell, what);
        } catch (IndexOutOfBoundsException e) {
            got = thrown(true);
        } catch (NoSuchElementException e) {
            got = thrown(false);
        }
        try {
            want = y.cell(cell, what);
        } catch (IndexOutOfBoundsException e) {
            want = thrown(true);
        } catch (NoSuchElementException e) {
            want = thrown(false);
        }
        due("cell(" + cell + "," + what + ")", got, want);
    }

    private void askAll() {
        int cells = y.now.cells.size();
        int paths = y.now.paths.size();
        int phases = y.now.phases.size();
        due("good", x.good(), y.good());
        due("pads", x.pads(), y.pads());
        due("ratio", x.ratio(false), y.ratio(false));
        due("ratio under", x.ratio(true), y.ratio(true));
        due("leastPeriod", x.leastPeriod(), y.leastPeriod());
        due("breaks", x.breaks(), y.breaks());
        due("flops", x.flops(), y.flops());
        for (int i = -1; i <= 10; i++) {
            due("loop" + i, x.loop(i), y.loop(i));
        }
        for (int i = -1; i <= 2; i++) {
            due("which" + i, x.which(i), y.which(i));
        }
        for (int c = -1; c <= cells; c++) {
            due("leaves" + c, x.leaves(c), y.leaves(c));
            due("comes" + c, x.comes(c), y.comes(c));
            due("room" + c, x.room(c), y.room(c));
            due("from" + c, x.from(c), y.from(c));
            for (int i = -1; i <= 6; i++) {
                due("chain" + c + "," + i, x.chain(c, i), y.chain(c, i));
            }
            int n = any(-1, 201);
            due("wave" + c + "," + n, x.wave(c, n), y.wave(c, n));
            n = any(0, 4);
            due("wave" + c + "," + n, x.wave(c, n), y.wave(c, n));
            due("fails" + c, x.fails(c), y.fails(c));
            askCell(c, any(-1, 7));
        }
        for (int p = -1; p <= paths; p++) {
            due("gap" + p, x.gap(p), y.gap(p));
            due("pad" + p, x.pad(p), y.pad(p));
            due("near" + p, x.near(p), y.near(p));
            due("nearest" + p, x.nearest(p), y.nearest(p));
            for (int i = -1; i <= 5; i++) {
                due("path" + p + "," + i, x.path(p, i), y.path(p, i));
            }
        }
        for (int p = -1; p <= phases; p++) {
            due("leastWidth" + p, x.leastWidth(p), y.leastWidth(p));
            for (int i = -1; i <= 2; i++) {
                due("opens" + p + "," + i, x.opens(p, i), y.opens(p, i));
            }
        }
        for (int k = -1; k <= 2 * phases; k++) {
            for (int i = -1; i <= 3; i++) {
                due("event" + k + "," + i, x.event(k, i), y.event(k, i));
            }
        }
        for (int i = 0; i < 6; i++) {
            int time = i == 0 ? -1 : i == 1 ? 64 * y.now.period : any(0, 63) * y.now.period + any(-1, 1);
            due("open" + time, x.open(time), y.open(time));
        }
    }

    private void askSearches() {
        for (int p = -1; p <= y.now.paths.size(); p += any(1, hard ? 12 : 4)) {
            due("slower" + p, x.slower(p), y.slower(p));
            due("gain" + p, x.gain(p), y.gain(p));
        }
        int seed = random.nextInt(3) == 0 ? -1 : any(-2, Integer.MAX_VALUE - 3);
        int n = any(0, slow ? 41 : 6);
        for (int what = -1; what <= 3; what++) {
            due("chance" + seed + "," + n + "," + what, x.chance(seed, n, what), y.chance(seed, n, what));
        }
        if (slow) {
            for (int c = -1; c <= y.now.cells.size(); c++) {
                due("bestMove" + c, x.bestMove(c), y.bestMove(c));
            }
            for (int q = -1; q <= y.now.phases.size(); q++) {
                due("bestOpens" + q, x.bestOpens(q), y.bestOpens(q));
            }
        }
    }

    private void change() {
        int c = any(-1, y.now.cells.size());
        int p = any(-1, y.now.paths.size());
        int q = any(-1, y.now.phases.size());
        int n;
        switch (random.nextInt(10)) {
            case 0:
                n = random.nextInt(5) == 0 ? any(-1, 1) * 10000 : y.now.period + any(-5, 5);
                due("period " + n, x.period(n), y.period(n));
                break;
            case 1:
                n = any(-1, 64);
                int w = any(0, 64);
                due("phase " + q + "," + n + "," + w, x.phase(q, n, w), y.phase(q, n, w));
                break;
            case 2:
                n = random.nextInt(5) == 0 ? any(-1, 1) * 1000 : any(0, 30);
                int least = any(-1, 31);
                due("delay " + p + "," + n + "," + least, x.delay(p, n, least), y.delay(p, n, least));
                break;
            case 3:
                due("flop " + c, x.flop(c), y.flop(c));
                break;
            case 4:
                n = random.nextInt(5) == 0 ? any(-1, 1) * 100 : any(0, 5);
                due("skew " + n, x.skew(n), y.skew(n));
                break;
            case 5:
            case 6:
                n = random.nextInt(5) == 0 ? any(-1, 1) * any(999, 1000) : any(-5, 5);
                due("move " + c + "," + n, x.move(c, n), y.move(c, n));
                break;
            case 7:
                due("undo", x.undo(), y.undo());
                break;
            case 8:
                due("keep", x.keep(), y.keep());
                break;
            default:
                if (random.nextInt(4) == 0) {
                    due("back", x.back(), y.back());
                }
        }
        for (int what = -1; what <= 9; what++) {
            due("count" + what, x.count(what), y.count(what));
        }
    }

    private void run(int steps) {
        run(steps, joined(tokensOfText()));
    }

    private void run(int steps, String text) {
        giveText(text);
        for (int i = 0; i < 8; i++) {
            int kind = any(-1, 2);
            int letters = any(1, 16) << 25 | (random.nextInt(6) == 0 ? 1 : 0);
            due("named" + kind + "," + letters, x.named(kind, letters), y.named(kind, letters));
        }
        for (int i = 0; i < steps; i++) {
            askAll();
            askSearches();
            for (int k = any(1, 3); k > 0; k--) {
                change();
            }
        }
    }

    private void full(int steps) {
        run(steps, fullText());
        due("count(2)", x.count(2), 24);
        for (int c = 0; c < 10; c++) {
            due("move " + c + ",0", x.move(c, 0), y.move(c, 0));
        }
        due("bestMove9", x.bestMove(9), y.bestMove(9));
    }

    private void changesOnly(int steps) {
        giveText(joined(tokensOfText()));
        for (int i = 0; i < steps; i++) {
            change();
            for (int p = 0; p < y.now.paths.size(); p++) {
                due("most", x.path(p, 2), y.path(p, 2));
                due("least", x.path(p, 3), y.path(p, 3));
            }
        }
    }

    private void two() {
        giveText(joined(tokensOfText()));
        int phases = y.now.phases.size();
        int one = any(0, phases - 1);
        int other = phases == 1 ? 0 : (one + any(1, phases - 1)) % phases;
        due("bestTwo " + one + "," + other, x.bestTwo(one, other), y.bestTwo(one, other));
        due("good", x.good(), y.good());
    }

    public static void main(String[] args) {
        int times = args.length > 0 ? Integer.parseInt(args[0]) : 1;
        int from = args.length > 1 ? Integer.parseInt(args[1]) : 0;
        for (int i = from; i < from + 40 * times; i++) {
            new AgainstPlainTest(i, false).texts(50);
            new AgainstPlainTest(1000000 + i, false).changesOnly(100);
        }
        for (int i = from; i < from + 60 * times; i++) {
            new AgainstPlainTest(2000000 + i, false).run(2);
        }
        for (int i = from; i < from + 8 * times; i++) {
            new AgainstPlainTest(5000000 + i, false).hard().run(1);
            new AgainstPlainTest(6000000 + i, false).full(1);
            new AgainstPlainTest(7000000 + i, false).wide().run(1);
        }
        for (int i = from; i < from + 8 * times; i++) {
            new AgainstPlainTest(3000000 + i, true).run(2);
        }
        for (int i = from; i < from + 16 * times; i++) {
            new AgainstPlainTest(4000000 + i, true).two();
        }
        System.out.println(wrong == 0 ? asked + " answers are as due" : wrong + " answers are not as due");
        if (wrong != 0) {
            System.exit(1);
        }
    }
}
