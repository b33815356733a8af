import java.math.BigInteger;
import java.util.NoSuchElementException;

/**
 * The bounds of what is told of TIMES, sentence by sentence: parts 2 and 3 of the document's terms, promises 12 to 28
 * and 38 to 42. Answers are worked out by hand; each check is named by the words that it holds the program to.
 */
public final class TimeBoundsTest extends Bench {
    /** Numbers that name nothing: behind the last one told, ahead of the first, far away, near a shift's width. */
    private static int[] beyond(int count) {
        return new int[] {-1, count, count + 1, 10, 24, 31, 32, 33, 63, 64, 65, -2, -32, -64, LEAST_INT, LEAST_INT + 1,
            GREATEST_INT};
    }

    /** COMES of b by its path: 64 MOST, less 1 (SHIFT) times PERIOD; b is a latch of PHASE q or a flop. */
    private static LatchTimes step(String kind, int setup, int period, int most) {
        return given("period " + period + ";phase p 0 1;phase q 1 9;flop a p 0 0 0;" + kind + " b q " + setup
                + " 0 0;path a b " + most + " 0;");
    }

    /** One latch with a path to itself, SHIFT 64: each wave adds 64 times (MOST less PERIOD). */
    private static LatchTimes self(int period, int width, int setup, int most) {
        return given("period " + period + ";phase p 5 " + width + ";latch a p " + setup + " 0 0;path a a " + most + " 0;");
    }

    // ---- Promises 12, 13, 14

    private static int thrownBy(LatchTimes x, int cell, int what) {
        try {
            x.cell(cell, what);
        } catch (IndexOutOfBoundsException e) {
            return e.getClass() == IndexOutOfBoundsException.class ? 1 : 3;
        } catch (NoSuchElementException e) {
            return e.getClass() == NoSuchElementException.class ? 2 : 4;
        }
        return 0;
    }

    private static void cellsAsked() {
        LatchTimes x = given(RING);
        int[] beyondWhat = {-1, 7, 8, LEAST_INT, GREATEST_INT};
        for (int cell : beyond(3)) {
            due("IndexOutOfBoundsException: no such CELL", "cell(" + cell + ", 0)", thrownBy(x, cell, 0), 1);
            due("IndexOutOfBoundsException ahead of NoSuchElementException", "cell(" + cell + ", 7)", thrownBy(x, cell, 7), 1);
        }
        for (int what : beyondWhat) {
            due("NoSuchElementException: no such what", "cell(0, " + what + ")", thrownBy(x, 0, what), 2);
            due("NoSuchElementException: no such what", "cell(2, " + what + ")", thrownBy(x, 2, what), 2);
            due("IndexOutOfBoundsException ahead of NoSuchElementException", "cell(3, " + what + ")", thrownBy(x, 3, what), 1);
        }
        for (int what = 0; what <= 6; what++) {
            due("Of a CELL, what 0 .. 6", "cell(0, " + what + ")", thrownBy(x, 0, what), 0);
            due("Of a CELL, what 0 .. 6", "cell(2, " + what + ")", thrownBy(x, 2, what), 0);
            due("no such CELL without any", "cell(0, " + what + ")", thrownBy(new LatchTimes(), 0, what), 1);
        }
        LatchTimes y = given("phase p 0 1;latch a p 0 0 0;flop b p 99 98 97;path b b 1 1;path a b 1 1;");
        String where = "5 how many paths come to it, 6 go from it";
        dueRow(where, "cell", row(y.cell(0, 5), y.cell(0, 6), y.cell(1, 5), y.cell(1, 6)), 0, 1, 2, 1);
        dueRow("1 SETUP, 2 HOLD, 3 THROUGH", "cell", row(y.cell(1, 1), y.cell(1, 2), y.cell(1, 3)), 99, 98, 97);
        y.flop(0);
        y.flop(1);
        dueRow("4 whether it is a flop (1, 0)", "cell", row(y.cell(0, 4), y.cell(1, 4)), 1, 0);
    }

    private static void pathsAsked() {
        String where = "Of a path; NONE: no such ones";
        LatchTimes x = given(RING);
        for (int path : beyond(4)) {
            due(where, "path(" + path + ", 0)", x.path(path, 0), -1);
            due(where, "path(" + path + ", 4)", x.path(path, 4), -1);
            due(where, "path(" + path + ", 5)", x.path(path, 5), -1);
        }
        for (int what : new int[] {-1, 5, 6, LEAST_INT, GREATEST_INT}) {
            due(where, "path(0, " + what + ")", x.path(0, what), -1);
            due(where, "path(3, " + what + ")", x.path(3, what), -1);
        }
        dueRow("what 0, 1 its CELLS, 2 MOST, 3 LEAST, 4 SHIFT", "the last path",
                row(x.path(3, 0), x.path(3, 1), x.path(3, 2), x.path(3, 3), x.path(3, 4)), 2, 0, 5, 1, 64);
        where = "Of a PHASE, what 0 OPENS, 1 WIDTH; NONE: no such ones";
        for (int phase : beyond(2)) {
            due(where, "opens(" + phase + ", 0)", x.opens(phase, 0), -1);
            due(where, "opens(" + phase + ", 1)", x.opens(phase, 1), -1);
        }
        for (int what : new int[] {-1, 2, LEAST_INT, GREATEST_INT}) {
            due(where, "opens(0, " + what + ")", x.opens(0, what), -1);
        }
        x.phase(1, 63, 62);
        dueRow(where, "opens", row(x.opens(0, 0), x.opens(0, 1), x.opens(1, 0), x.opens(1, 1)), 0, 32, 63, 62);
    }

    private static void shifts() {
        String where = "1 .. 64 (64 to itself, to one that OPENS with it)";
        String net = "phase p 0 1;phase q 0 1;latch a p 0 0 0;latch b q 0 0 0;path a b 0 0;path b a 0 0;path a a 0 0;";
        for (int p = 0; p < 64; p++) {
            LatchTimes x = given(net);
            x.phase(0, p, 1);
            for (int q = 0; q < 64; q++) {
                x.phase(1, q, 1);
                int there = q > p ? q - p : q - p + 64;
                int back = p > q ? p - q : p - q + 64;
                due(where, "SHIFT from " + p + " to " + q, x.path(0, 4), there);
                due(where, "SHIFT from " + q + " to " + p, x.path(1, 4), back);
                due(where, "SHIFT from " + p + " to itself", x.path(2, 4), 64);
            }
        }
    }

    // ---- Promises 15 to 21

    private static void comesAndLeaves() {
        String where = "LEAVES: of a latch COMES, 0 at least";
        int[][] rows = {{65, 1, -1, 0, 0}, {64, 1, 0, 0, 0}, {63, 1, 1, 1, 2}, {9999, 0, -9999, 0, 0}, {1, 999, 63935, 63935, 2}};
        for (int[] r : rows) {
            LatchTimes x = step("latch", 0, r[0], r[1]);
            due(where, "COMES at " + r[0], x.comes(1), r[2]);
            due(where, "LEAVES at " + r[0], x.leaves(1), r[3]);
            due("BORROWS: a latch whose LEAVES is above 0", "which(0) at " + r[0], x.which(0), r[4]);
            due("ROOM of a latch", "ROOM at " + r[0], x.room(1), 9L * r[0] - r[3]);
            LatchTimes y = step("flop", 0, r[0], r[1]);
            due("LEAVES of a flop 0", "COMES at " + r[0], y.comes(1), r[2]);
            due("LEAVES of a flop 0", "LEAVES at " + r[0], y.leaves(1), 0);
            due("BORROWS: a latch", "which(0) at " + r[0], y.which(0), 0);
            due("ROOM of a flop: less SETUP, less COMES", "ROOM at " + r[0], y.room(1), -r[2]);
        }
        where = "the latest by all paths to it; without any: 0, less its SETUP for a flop";
        for (int setup : new int[] {0, 1, 99}) {
            LatchTimes x = given("phase p 0 63;latch a p " + setup + " 0 0;flop b p " + setup + " 0 0;");
            dueRow(where, "without paths", row(x.comes(0), x.leaves(0), x.room(0), x.comes(1), x.leaves(1), x.room(1)),
                    0, 0, 6300 - 64 * setup, -64 * setup, 0, 0);
            x.flop(0);
            x.flop(1);
            dueRow(where, "the other way round", row(x.comes(0), x.room(0), x.comes(1), x.room(1)),
                    -64 * setup, 0, 0, 6300 - 64 * setup);
        }
    }

    private static void met() {
        String where = "It is MET, if ROOM is 0 or more";
        // a latch: WIDTH 1 times PERIOD, less 64
        for (int period = 63; period <= 65; period++) {
            LatchTimes x = given("period " + period + ";phase p 0 1;latch a p 1 0 0;");
            due(where, "ROOM of a latch", x.room(0), period - 64);
            due(where, "which(1) of a latch", x.which(1), period < 64 ? 1 : 0);
            due("All are MET: GOOD", "good() of a latch", x.good(), period < 64 ? 1 : 2);
        }
        // a flop: SETUP 2, MOST 3 by a SHIFT of 1: PERIOD less 5 times 64
        for (int period = 319; period <= 321; period++) {
            LatchTimes x = step("flop", 2, period, 3);
            due(where, "ROOM of a flop", x.room(1), period - 320);
            due(where, "which(1) of a flop", x.which(1), period < 320 ? 2 : 0);
            due("All are MET: GOOD", "good() of a flop", x.good(), period < 320 ? 1 : 2);
        }
        LatchTimes all = given("period 1;phase p 0 1;latch a p 1 0 0;latch b p 1 0 0;latch c p 1 0 0;latch d p 1 0 0;"
                + "latch e p 1 0 0;latch f p 1 0 0;latch g p 1 0 0;latch h p 1 0 0;latch i p 1 0 0;latch j p 1 0 0;");
        due("as bits", "which(1) of ten CELLS", all.which(1), 1023);
        due("as bits", "which(0) of ten CELLS", all.which(0), 0);
        // f sets the nine others going, which have one unit more than a PERIOD each
        StringBuilder t = new StringBuilder("period 9;phase p 0 63;");
        for (char c = 'a'; c <= 'j'; c++) {
            t.append(c == 'f' ? "flop " : "latch ").append(c).append(" p 0 0 0;");
        }
        for (char c = 'a'; c <= 'j'; c++) {
            t.append("path f ").append(c).append(" 10 0;");
        }
        LatchTimes most = given(t.toString());
        dueRow("as bits", "which of nine latches and a flop", row(most.which(0), most.which(1)), 1023 - 32, 32);
    }

    private static void notForever() {
        String where = "PERIODS below it are FOREVER, others aren't";
        // two latches of one PHASE: 12 units by 128 64ths are 6, 13 units are 6 and a half
        for (int units = 12; units <= 13; units++) {
            LatchTimes x = given("phase p 0 63;latch a p 0 0 0;latch b p 0 0 0;path a b 5 0;path b a " + (units - 5) + " 0;");
            due(where, "RATIO", x.ratio(false), units == 12 ? 6 : 13);
            due(where, "RATIO, its lower number", x.ratio(true), units == 12 ? 1 : 2);
            for (int period = 5; period <= 8; period++) {
                x.period(period);
                boolean forever = 2 * period < units;
                due(where, "good() at " + period, x.good(), forever ? 0 : 2);
                due("-2: it is FOREVER", "leaves(0) at " + period, x.leaves(0) == -2, forever);
                due("NO: it is FOREVER", "comes(0) at " + period, x.comes(0) == NO, forever);
            }
        }
        where = "GOOD (never, if it is FOREVER)";
        LatchTimes x = self(10, 63, 0, 11);
        dueRow(where, "of those that are asked by CELL", row(x.good(), x.leaves(0), x.comes(0), x.room(0), x.from(0),
                x.chain(0, 0), x.which(0), x.which(1), x.near(0), x.nearest(0), x.flops(), x.leastWidth(0)),
                0, -2, NO, NO, -2, -2, -2, -2, NO, -2, -2, -2);
        dueRow("NONE goes first, then -2", "no such ones, FOREVER", row(x.leaves(1), x.from(1), x.chain(1, 0), x.chain(0, -1),
                x.which(2), x.nearest(-1), x.leastWidth(1), x.slower(1)), -1, -1, -1, -1, -1, -1, -1, -1);
        x.flop(0);
        due("a row of latches round about", "good() of a flop that isn't in time", x.good(), 1);
        // the loop is FOREVER, though nothing comes of it to c
        LatchTimes y = given("period 9;phase p 0 63;latch a p 0 0 0;latch b p 0 0 0;latch c p 0 0 0;path a b 10 0;path b a 9 0;");
        dueRow("it is FOREVER", "a CELL without paths", row(y.leaves(2), y.comes(2), y.room(2), y.chain(2, 0)), -2, NO, NO, -2);
    }

    private static void askedByCell() {
        LatchTimes x = given(RING);
        for (int cell : beyond(3)) {
            String name = "(" + cell + ")";
            dueRow("no such CELL", "leaves, comes, room, from, chain, wave, fails, bestMove of " + name,
                    row(x.leaves(cell), x.comes(cell), x.room(cell), x.from(cell), x.chain(cell, 0), x.wave(cell, 0),
                    x.fails(cell), x.bestMove(cell)), -1, NO, NO, -1, -1, NO, -1, -3000);
        }
        for (int path : beyond(4)) {
            String name = "(" + path + ")";
            dueRow("no such path", "gap, pad, slower, gain, near of " + name,
                    row(x.gap(path), x.pad(path), x.slower(path), x.gain(path), x.near(path)), NO, -1, -1, -1, NO);
        }
        for (int phase : beyond(2)) {
            String name = "(" + phase + ")";
            dueRow("no such PHASE", "bestOpens, bestTwo, leastWidth of " + name, row(x.bestOpens(phase), x.bestTwo(phase, 0),
                    x.bestTwo(0, phase), x.leastWidth(phase)), -1, -1, -1, -1);
        }
        for (int what : new int[] {-1, 2, LEAST_INT, GREATEST_INT}) {
            due("NONE for another what", "which(" + what + ")", x.which(what), -1);
        }
    }

    private static void firstOfSeveral() {
        String where = "FROM of a CELL: the path by which it COMES latest (the first of several)";
        // of one PHASE: the paths from a, b, c come alike to d
        String net = "period 10;phase p 0 63;latch a p 0 0 0;flop b p 0 0 4;latch c p 0 0 0;latch d p 0 0 0;";
        LatchTimes x = given(net + "path c d 8 0;path b d 5 0;path a d 9 0;");
        due(where, "two alike", x.from(3), 1);
        x.delay(0, 9, 0);
        due(where, "three alike", x.from(3), 0);
        x.delay(1, 6, 0);
        due(where, "the one that is latest", x.from(3), 1);
        due("-2: no path comes to it", "from(0)", x.from(0), -2);
        x.delay(0, 0, 0);
        x.delay(1, 0, 0);
        x.delay(2, 0, 0);
        due(where, "early ones", x.from(3), 1);
        due(where, "COMES of early ones", x.comes(3), 64 * 4 - 640);
    }

    private static long[] chainOf(LatchTimes x, int cell) {
        long[] chain = new long[11];
        for (int i = 0; i <= 10; i++) {
            chain[i] = x.chain(cell, i);
        }
        return chain;
    }

    private static void chains() {
        String where = "till one behind the first that is a flop, or a latch whose LEAVES is 0, or any without paths to it";
        // ten latches in a row, each borrows one unit more than the one ahead
        StringBuilder t = new StringBuilder("period 10;phase p 0 63;");
        for (char c = 'a'; c <= 'j'; c++) {
            t.append("latch ").append(c).append(" p 0 0 0;");
        }
        for (char c = 'a'; c < 'j'; c++) {
            t.append("path ").append(c).append(' ').append((char) (c + 1)).append(" 11 0;");
        }
        LatchTimes x = given(t.toString());
        due(where, "LEAVES of the last one", x.leaves(9), 9 * 64);
        dueRow(where, "ten CELLS", chainOf(x, 9), 9, 8, 7, 6, 5, 4, 3, 2, 1, 0, -2);
        dueRow("any without paths to it", "one CELL", chainOf(x, 0), 0, -2, -2, -2, -2, -2, -2, -2, -2, -2, -2);
        x.flop(5);
        dueRow("behind the first that is a flop", "four behind a flop", chainOf(x, 9), 9, 8, 7, 6, 5, -2, -2, -2, -2, -2, -2);
        dueRow("behind the first", "a flop that is the first", chainOf(x, 5), 5, 4, 3, 2, 1, 0, -2, -2, -2, -2, -2);
        x.flop(5);
        x.delay(2, 7, 0);
        // it comes to d at -1 unit: two units of c, and -3
        due(where, "LEAVES of d", x.leaves(3), 0);
        dueRow("a latch whose LEAVES is 0", "down to d", chainOf(x, 9), 9, 8, 7, 6, 5, 4, 3, -2, -2, -2, -2);
        dueRow("behind the first", "d that is the first", chainOf(x, 3), 3, 2, 1, 0, -2, -2, -2, -2, -2, -2, -2);
        dueRow("behind the first", "e and d", chainOf(x, 4), 4, 3, -2, -2, -2, -2, -2, -2, -2, -2, -2);
        x.delay(2, 8, 0);
        due(where, "LEAVES of d at 0 exactly", x.leaves(3), 0);
        dueRow("a latch whose LEAVES is 0", "down to d", chainOf(x, 5), 5, 4, 3, -2, -2, -2, -2, -2, -2, -2, -2);
        where = "till one that is in it already (that one isn't told again)";
        // f sets the pair a, b going, then each comes by the other as late as by f; c hangs behind
        LatchTimes y = given("period 10;phase p 0 63;flop f p 0 0 0;latch a p 0 0 0;latch b p 0 0 0;latch c p 0 0 0;"
                + "path b a 9 0;path a b 11 0;path f a 12 0;path b c 10 0;path c c 10 0;");
        dueRow(where, "LEAVES", row(y.leaves(1), y.leaves(2), y.leaves(3)), 128, 192, 192);
        dueRow(where, "c, b, a", chainOf(y, 3), 3, 2, 1, -2, -2, -2, -2, -2, -2, -2, -2);
        dueRow(where, "a, b", chainOf(y, 1), 1, 2, -2, -2, -2, -2, -2, -2, -2, -2, -2);
        y.delay(3, 0, 0);
        dueRow(where, "c, which comes by itself", row(y.from(3), y.chain(3, 0), y.chain(3, 1)), 4, 3, -2);
        where = "-2: there are not so many; NONE: no such ones";
        dueRow(where, "chain", row(y.chain(3, GREATEST_INT), y.chain(3, 31), y.chain(3, 32), y.chain(3, -1),
                y.chain(3, LEAST_INT), y.chain(4, 0), y.chain(4, 99), y.chain(-1, -1)), -2, -2, -2, -1, -1, -1, -1, -1);
    }

    // ---- Promises 22, 23, 24

    private static void gapsAndPads() {
        String where = "KEPT, if GAP is 0 or more; PAD: the fewest whole units more";
        // to a latch of the same PHASE, WIDTH 1: 64 LEAST, less PERIOD
        int[][] rows = {{63, 1, 0}, {64, 0, 0}, {65, -1, 1}, {127, -63, 1}, {128, -64, 1}, {129, -65, 2}, {192, -128, 2},
            {193, -129, 3}};
        for (int[] r : rows) {
            LatchTimes x = given("period " + r[0] + ";phase p 3 1;flop a p 0 0 0;latch b p 0 0 0;path a b 1 1;");
            due(where, "GAP at " + r[0], x.gap(0), r[1]);
            due(where, "PAD at " + r[0], x.pad(0), r[2]);
            due(where, "pads() at " + r[0], x.pads(), r[2]);
            if (r[2] > 0) {
                x.delay(0, 1 + r[2], r[2]);
                due("by which it is KEPT", "one unit less isn't enough", x.gap(0) < 0, true);
                x.delay(0, 1 + r[2], 1 + r[2]);
                due("by which it is KEPT", "so many units are enough", x.gap(0) >= 0, true);
            }
            x.flop(1);
            due("(a flop: 0)", "GAP at " + r[0], x.gap(0), 64 * (1 + r[2]));
        }
        where = "PAD: more for LEAST (not MOST)";
        // 5 paths to each of 5 latches but one: 64 times 99 twice, 63 times 9999
        StringBuilder t = new StringBuilder("period 9999;skew 99;phase p 0 63;");
        for (char c = 'a'; c <= 'e'; c++) {
            t.append("latch ").append(c).append(" p 0 99 0;");
        }
        for (int i = 0; i < 24; i++) {
            t.append("path ").append((char) ('a' + i / 5)).append(' ').append((char) ('a' + i % 5)).append(" 0 0;");
        }
        LatchTimes x = given(t.toString());
        due(where, "the least GAP", x.gap(23), -64 * 198 - 63 * 9999);
        due(where, "its PAD", x.pad(23), 10041);
        due("PADS of all paths together", "pads()", x.pads(), 24 * 10041);
        due("PADS of all paths together", "pads() without paths", given("phase p 0 1;latch a p 0 99 0;").pads(), 0);
        // to a flop, SHIFT 1: 99 and 999 units, and 63 times 9999
        LatchTimes y = given("period 9999;phase p 0 1;phase q 1 1;latch a p 0 0 99;flop b q 0 0 0;path a b 999 999;");
        due("GAP of a path", "the greatest GAP", y.gap(0), 64 * 1098 + 63 * 9999);
        due("(0: it is)", "its PAD", y.pad(0), 0);
        LatchTimes z = self(10, 63, 0, 11);
        due("GAP, whether or not it is FOREVER", "gap(0)", z.gap(0), -630);
        due("PAD, whether or not it is FOREVER", "pad(0)", z.pad(0), 10);
    }

    // ---- Promises 25, 26

    private static void waves() {
        String where = "LEAVES of a CELL at wave n 0 .. 200; NO: no such ones";
        LatchTimes x = self(1, 1, 0, 2);
        for (int n : new int[] {0, 1, 2, 199, 200}) {
            due(where, "wave(0, " + n + ")", x.wave(0, n), 64 * n);
        }
        for (int n : new int[] {-1, 201, LEAST_INT, GREATEST_INT}) {
            due(where, "wave(0, " + n + ")", x.wave(0, n), NO);
            due(where, "wave(1, " + n + ")", x.wave(1, n), NO);
        }
        LatchTimes fast = given("period 1;skew 99;phase p 0 1;latch a p 0 0 99;path a a 999 0;");
        due(where, "the greatest of all", fast.wave(0, 200), 200L * 64 * 1196);
        where = "LEAVES at wave 0 is 0 of all";
        LatchTimes ring = given(RING);
        dueRow(where, "wave 0", row(ring.wave(0, 0), ring.wave(1, 0), ring.wave(2, 0)), 0, 0, 0);
        dueRow("comes of that of the wave ahead", "wave 1", row(ring.wave(0, 1), ring.wave(1, 1), ring.wave(2, 1)), 0, 256, 64);
        LatchTimes still = given("phase p 0 1;latch a p 0 0 0;flop b p 9 0 0;");
        dueRow("without any paths", "waves", row(still.wave(0, 1), still.wave(0, 200), still.wave(1, 1)), 0, 0, 0);
        where = "The first wave 1 .. 200 at which a CELL isn't MET; -2: none";
        // ROOM at wave n: WIDTH times 256, less 64 SETUP, less 64 n
        due(where, "fails at 200", self(256, 50, 1, 257).fails(0), 200);
        due(where, "would fail at 201", self(256, 50, 0, 257).fails(0), -2);
        due(where, "but is FOREVER", self(256, 50, 0, 257).good(), 0);
        due(where, "fails at 2", self(256, 1, 3, 257).fails(0), 2);
        due(where, "fails at 1", self(256, 1, 4, 257).fails(0), 1);
        due(where, "fails at rest, 1 is the first", self(256, 1, 5, 257).fails(0), 1);
        due(where, "stays at 0", self(256, 1, 4, 256).fails(0), -2);
        due(where, "a latch without paths that has room", given("period 64;phase p 0 1;latch a p 1 0 0;").fails(0), -2);
        due(where, "a latch without paths that has none", given("period 63;phase p 0 1;latch a p 1 0 0;").fails(0), 1);
        due(where, "a flop without paths", given("phase p 0 1;flop a p 99 0 0;").fails(0), -2);
        // a leaves at 0, 1, 2 .. units; it comes to the flop b a wave later
        LatchTimes y = given("period 9;phase p 0 63;latch a p 0 0 0;flop b p 0 0 0;path a a 10 0;path a b 9 0;");
        due("(by LEAVES, COMES as they are then)", "the flop fails at 2", y.fails(1), 2);
        y.delay(1, 8, 0);
        due("(by LEAVES, COMES as they are then)", "the flop fails at 3", y.fails(1), 3);
        y.delay(1, 10, 0);
        due("(by LEAVES, COMES as they are then)", "the flop fails at 1", y.fails(1), 1);
    }

    // ---- Promises 27, 28

    private static void ratios() {
        String where = "0 by 1: there is no LOOP";
        for (String net : new String[] {"", "phase p 0 1;latch a p 0 0 9;", "phase p 0 1;flop a p 0 0 9;path a a 9 9;",
            "phase p 0 1;flop a p 0 0 9;latch b p 0 0 9;path a b 9 9;path b a 9 9;",
            "phase p 0 1;latch a p 0 0 9;flop b p 0 0 9;path a b 9 9;path b a 9 9;path b b 9 9;"}) {
            LatchTimes x = given(net);
            dueRow(where, "RATIO, its LOOP", row(x.ratio(false), x.ratio(true), x.loop(0), x.loop(-1)), 0, 1, -2, -1);
        }
        where = "a fraction in least terms";
        LatchTimes zero = given("phase p 0 1;latch a p 0 0 0;path a a 0 0;");
        dueRow(where, "a TURN of 0", row(zero.ratio(false), zero.ratio(true), zero.loop(0), zero.loop(1)), 0, 1, 0, -2);
        LatchTimes most = given("skew 99;phase p 0 1;phase q 63 1;latch a p 0 0 99;latch b q 0 0 99;path a b 999 0;path b a 999 0;");
        dueRow(where, "the greatest of all", row(most.ratio(false), most.ratio(true)), 2394, 1);
        // three latches of one PHASE, 1 unit in all
        LatchTimes third = given("phase p 0 1;latch a p 0 0 1;latch b p 0 0 0;latch c p 0 0 0;path a b 0 0;path b c 0 0;path c a 0 0;");
        dueRow(where, "a third", row(third.ratio(false), third.ratio(true)), 1, 3);
        due("PERIODS below it are FOREVER, others aren't", "good() at 1", third.period(1) + third.good() - 100, 2);
        where = "no CELL twice";
        // ten latches round about, one unit each; PHASES 0, 1, 2, 3 by turns, and back to 0 from the second 1
        StringBuilder t = new StringBuilder("phase p 0 1;phase q 16 1;phase r 32 1;phase s 48 1;");
        for (int i = 0; i < 10; i++) {
            t.append("latch ").append((char) ('a' + i)).append(' ').append("pqrs".charAt(i % 4)).append(" 0 0 0;");
        }
        for (int i = 0; i < 10; i++) {
            t.append("path ").append((char) ('a' + i)).append(' ').append((char) ('a' + (i + 1) % 10)).append(" 1 1;");
        }
        LatchTimes ten = given(t.toString());
        dueRow(where, "ten units by nine quarters and three", row(ten.ratio(false), ten.ratio(true)), 10, 3);
        for (int i = 0; i < 10; i++) {
            due(where, "loop(" + i + ") of ten CELLS", ten.loop(i), i);
        }
        where = "-2: there are not so many; NONE: i is below 0";
        dueRow(where, "loop", row(ten.loop(10), ten.loop(11), ten.loop(GREATEST_INT), ten.loop(-1), ten.loop(LEAST_INT)),
                -2, -2, -2, -1, -1);
    }

    private static void whichLoop() {
        String where = "the one with the fewest CELLS, beginning with its least CELL, of several the first by numbers";
        String four = "phase p 0 1;latch a p 0 0 0;latch b p 0 0 0;latch c p 0 0 0;latch d p 0 0 0;";
        LatchTimes x = given(four + "path d a 3 0;path a d 3 0;path c b 2 0;path b c 4 0;");
        dueRow(where, "a, d ahead of b, c", row(x.loop(0), x.loop(1), x.loop(2)), 0, 3, -2);
        x.delay(2, 3, 0);
        dueRow(where, "b, c by a greater TURN", row(x.loop(0), x.loop(1), x.ratio(false), x.ratio(true)), 1, 2, 7, 2);
        LatchTimes y = given(four + "path a c 3 0;path c b 3 0;path b a 3 0;path a b 3 0;path b c 3 0;path c a 3 0;");
        dueRow(where, "a, b ahead of a, c and b, c and of three", row(y.loop(0), y.loop(1), y.loop(2)), 0, 1, -2);
        LatchTimes z = given(four + "path a c 3 0;path c b 3 0;path b a 3 0;path c d 3 0;path d a 3 0;");
        dueRow(where, "a, c, b ahead of a, c, d", row(z.loop(0), z.loop(1), z.loop(2), z.loop(3)), 0, 2, 1, -2);
        LatchTimes w = given(four + "path a b 3 0;path b a 3 0;path d d 3 0;path c c 2 0;");
        dueRow(where, "d alone ahead of a, b", row(w.loop(0), w.loop(1)), 3, -2);
        w.flop(3);
        dueRow("CELLS that are latches", "a, b without d", row(w.loop(0), w.loop(1), w.loop(2)), 0, 1, -2);
        w.flop(1);
        dueRow("CELLS that are latches", "c alone", row(w.loop(0), w.loop(1), w.ratio(false)), 2, -2, 2);
        w.flop(2);
        dueRow("CELLS that are latches", "none is left", row(w.loop(0), w.ratio(false), w.ratio(true)), -2, 0, 1);
        w.flop(2);
        w.flop(1);
        dueRow("CELLS that are latches", "a, b again", row(w.loop(0), w.loop(1), w.loop(2), w.ratio(false)), 0, 1, -2, 3);
    }

    // ---- Promises 38, 39

    private static void nearPaths() {
        String where = "ROOM of the CELL it goes to, as if that path were the only one to it";
        // by a's path it comes to b at 1 unit, by c's at -9: each is told as if alone
        LatchTimes x = given("period 10;phase p 0 63;flop a p 0 0 0;latch b p 2 0 0;flop c p 0 0 0;path a b 11 0;path c b 1 0;"
                + "path b c 0 0;");
        dueRow(where, "near", row(x.near(0), x.near(1), x.near(2), x.room(1), x.room(2)),
                630 - 128 - 64, 630 - 128, 640 - 64, 630 - 128 - 64, 640 - 64);
        dueRow("the least first, then by numbers", "nearest", row(x.nearest(0), x.nearest(1), x.nearest(2)), 0, 1, 2);
        x.flop(1);
        dueRow(where, "near of flops", row(x.near(0), x.near(1), x.near(2)), -128 - 64, -128 + 576, 640);
        x.delay(1, 11, 0);
        dueRow("then by numbers", "nearest", row(x.nearest(0), x.nearest(1), x.nearest(2)), 0, 1, 2);
        x.delay(1, 12, 0);
        dueRow("the least first", "nearest", row(x.nearest(0), x.nearest(1), x.nearest(2)), 1, 0, 2);
        where = "-2: there are not so many, it is FOREVER; NONE: k is below 0";
        dueRow(where, "nearest", row(x.nearest(3), x.nearest(24), x.nearest(GREATEST_INT), x.nearest(-1), x.nearest(LEAST_INT)),
                -2, -2, -2, -1, -1);
        due(where, "nearest(0) without paths", given("phase p 0 1;flop a p 0 0 0;").nearest(0), -2);
        due(where, "nearest(-1) without paths", given("phase p 0 1;flop a p 0 0 0;").nearest(-1), -1);
        LatchTimes y = self(10, 63, 0, 11);
        dueRow(where, "FOREVER", row(y.nearest(0), y.nearest(1), y.nearest(-1), y.near(0), y.near(1)), -2, -2, -1, NO, NO);
    }

    // ---- Promises 40, 41

    private static void dueEvents(LatchTimes x, int[]... rows) {
        String where = "in order; at one TIME closings ahead of openings, then by numbers";
        for (int k = 0; k < rows.length; k++) {
            for (int what = 0; what < 3; what++) {
                due(where, "event(" + k + ", " + what + ")", x.event(k, what), rows[k][what]);
            }
            dueRow("NONE: no such ones", "event(" + k + ", ..)", row(x.event(k, -1), x.event(k, 3), x.event(k, LEAST_INT),
                    x.event(k, GREATEST_INT)), -1, -1, -1, -1);
        }
        for (int k : new int[] {-1, rows.length, rows.length + 1, LEAST_INT, GREATEST_INT}) {
            dueRow("NONE: no such ones", "event(" + k + ", ..)", row(x.event(k, 0), x.event(k, 1), x.event(k, 2),
                    x.event(k, 3)), -1, -1, -1, -1);
        }
    }

    private static void events() {
        dueEvents(new LatchTimes());
        dueEvents(given("period 9999;phase p 63 1;"), new int[] {0, 0, 0}, new int[] {63 * 9999, 0, 1});
        dueEvents(given("period 9999;phase p 63 63;"), new int[] {62 * 9999, 0, 0}, new int[] {63 * 9999, 0, 1});
        dueEvents(given("period 1;phase p 0 63;"), new int[] {0, 0, 1}, new int[] {63, 0, 0});
        dueEvents(given("period 3;phase p 2 63;"), new int[] {3, 0, 0}, new int[] {6, 0, 1});
        // closings and openings of all four at 0 and at 32
        dueEvents(given("period 2;phase p 0 32;phase q 32 32;phase r 0 32;phase s 32 32;"), new int[] {0, 1, 0},
                new int[] {0, 3, 0}, new int[] {0, 0, 1}, new int[] {0, 2, 1}, new int[] {64, 0, 0}, new int[] {64, 2, 0},
                new int[] {64, 1, 1}, new int[] {64, 3, 1});
        dueEvents(given("period 2;phase p 9 9;phase q 9 9;phase r 9 9;phase s 9 9;"), new int[] {18, 0, 1},
                new int[] {18, 1, 1}, new int[] {18, 2, 1}, new int[] {18, 3, 1}, new int[] {36, 0, 0}, new int[] {36, 1, 0},
                new int[] {36, 2, 0}, new int[] {36, 3, 0});
    }

    private static void dueOpen(LatchTimes x, int time, int want) {
        due("from the opening on, at the closing no more", "open(" + time + ")", x.open(time), want);
    }

    private static void openPhases() {
        LatchTimes x = given("period 10;phase p 5 20;");
        int[][] rows = {{0, 0}, {49, 0}, {50, 1}, {249, 1}, {250, 0}, {639, 0}};
        for (int[] r : rows) {
            dueOpen(x, r[0], r[1]);
        }
        String where = "a TIME 0 .. 64 times PERIOD, less 1; NONE: no such TIME";
        for (int time : new int[] {-1, 640, 641, LEAST_INT, GREATEST_INT}) {
            due(where, "open(" + time + ")", x.open(time), -1);
        }
        LatchTimes behind = given("period 9999;phase p 60 8;phase q 63 63;phase r 1 63;phase s 0 1;");
        // p is open to 4, q to 62, r to 0 of the next PERIOD
        int[][] more = {{0, 3}, {9998, 3}, {9999, 3}, {4 * 9999 - 1, 3}, {4 * 9999, 2}, {60 * 9999 - 1, 2}, {60 * 9999, 3},
            {62 * 9999 - 1, 3}, {62 * 9999, 2}, {63 * 9999 - 1, 2}, {63 * 9999, 3}, {64 * 9999 - 1, 3}};
        for (int[] r : more) {
            dueOpen(behind, r[0], r[1]);
        }
        due(where, "open(639936)", behind.open(64 * 9999), -1);
        LatchTimes shortest = given("period 1;phase p 0 63;phase q 1 63;");
        dueOpen(shortest, 0, 1);
        dueOpen(shortest, 1, 2);
        dueOpen(shortest, 62, 2);
        dueOpen(shortest, 63, 1);
        due(where, "open(64)", shortest.open(64), -1);
        due("PHASES without any", "open(0)", new LatchTimes().open(0), 0);
        due("PHASES without any", "open(6400)", new LatchTimes().open(6400), -1);
    }

    // ---- Promise 42

    /** The draws as the document tells them, in numbers without an end. */
    private static int[] draws(long seed, int count) {
        int[] drawn = new int[count];
        BigInteger number = BigInteger.valueOf(seed);
        for (int i = 0; i < count; i++) {
            number = number.multiply(BigInteger.valueOf(1103515245)).add(BigInteger.valueOf(12345));
            number = number.mod(BigInteger.TWO.pow(31));
            drawn[i] = number.divide(BigInteger.valueOf(65536)).intValueExact();
        }
        return drawn;
    }

    private static void chances() {
        String where = "DRAW: without what is above 31 bits; by 65536, rounded down, modulo what is said";
        String net = "seed 5;phase p 0 63;flop f p 0 0 0;path f f 999 0;";
        due(where, "the draw behind 2147483647", given(net).chance(GREATEST_INT, 1, 2), 15929 % 1000);
        for (int seed : new int[] {0, 1, 5, 99999, 1 << 30, GREATEST_INT - 1, GREATEST_INT}) {
            LatchTimes x = given(net);
            for (int n : new int[] {1, 2, 39, 40}) {
                int greatest = 1;
                int good = 0;
                for (int drawn : draws(seed, n)) {
                    greatest = Math.max(greatest, drawn % 1000);
                    good += drawn % 1000 <= 100 ? 1 : 0;
                }
                due(where, "chance(" + seed + ", " + n + ", 2)", x.chance(seed, n, 2), greatest);
                due("what 0 how often it is GOOD", "chance(" + seed + ", " + n + ", 0)", x.chance(seed, n, 0), good);
                due("1 FOREVER", "chance(" + seed + ", " + n + ", 1)", x.chance(seed, n, 1), 0);
                x.flop(0);
                due("what 0 how often it is GOOD", "by a latch", x.chance(seed, n, 0), good);
                due("1 FOREVER", "by a latch", x.chance(seed, n, 1), n - good);
                x.flop(0);
            }
        }
        LatchTimes x = given(net);
        due("(-1: that of the TEXT)", "chance(-1, 40, 2)", x.chance(-1, 40, 2), x.chance(5, 40, 2));
        where = "n 1 .. 40, a seed 0 .. 2147483647, what 0, 1, 2; NONE: no such ones";
        int[][] refused = {{-2, 1, 0}, {LEAST_INT, 1, 0}, {0, 0, 0}, {0, -1, 0}, {0, 41, 0}, {0, LEAST_INT, 0},
            {0, GREATEST_INT, 0}, {0, 1, -1}, {0, 1, 3}, {0, 1, LEAST_INT}, {0, 1, GREATEST_INT}, {-1, 0, 2}, {-1, 41, 2}};
        for (int[] r : refused) {
            due(where, "chance(" + r[0] + ", " + r[1] + ", " + r[2] + ")", x.chance(r[0], r[1], r[2]), -1);
        }
    }

    private static void chancesOfSeveral() {
        String where = "MOST of each path, one by one, is a DRAW modulo (MOST less LEAST and 1) above LEAST";
        // the first and the third have nothing to choose, but draw a number each
        String net = "phase p 0 1;flop a p 0 0 0;flop b p 0 0 0;path a a 3 3;path a b 900 200;path b a 0 0;path b b 50 41;";
        for (int seed : new int[] {0, 7, GREATEST_INT}) {
            LatchTimes x = given(net);
            int[] drawn = draws(seed, 160);
            int greatest = 0;
            for (int n = 1; n <= 40; n++) {
                int second = 200 + drawn[4 * n - 3] % 701;
                int fourth = 41 + drawn[4 * n - 1] % 10;
                greatest = Math.max(greatest, Math.max(second, fourth));
                due(where, "chance(" + seed + ", " + n + ", 2)", x.chance(seed, n, 2), greatest);
            }
            dueRow("MOST is as it was", "path", row(x.path(0, 2), x.path(1, 2), x.path(2, 2), x.path(3, 2)), 3, 900, 0, 50);
        }
        where = "the greatest LEAST PERIOD of those that have one (0 without any)";
        // by a SHIFT of 1 64 MOST is LEAST PERIOD: 156 are 9984, 157 have none
        LatchTimes y = given("phase p 0 1;phase q 1 1;flop a p 0 0 0;flop b q 0 0 0;path a b 999 0;");
        int[] drawn = draws(3, 40);
        int greatest = 0;
        for (int d : drawn) {
            greatest = d % 1000 > 156 ? greatest : Math.max(greatest, 64 * (d % 1000));
        }
        due(where, "some have one", y.chance(3, 40, 2), greatest);
        y.delay(0, 157, 157);
        due(where, "none has one", y.chance(3, 40, 2), 0);
        y.delay(0, 156, 156);
        due(where, "all have one", y.chance(3, 40, 2), 9984);
        y.delay(0, 0, 0);
        due(where, "the least one", y.chance(3, 40, 2), 1);
    }

    public static void main(String[] args) {
        cellsAsked();
        pathsAsked();
        shifts();
        comesAndLeaves();
        met();
        notForever();
        askedByCell();
        firstOfSeveral();
        chains();
        gapsAndPads();
        waves();
        ratios();
        whichLoop();
        nearPaths();
        events();
        openPhases();
        chances();
        chancesOfSeveral();
        endOfTest();
    }
}
