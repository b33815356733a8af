import java.util.ArrayList;
import java.util.List;
import java.util.NoSuchElementException;
import java.util.function.ToLongFunction;

/**
 * The bounds of what changes, sentence by sentence: part 4 of the document's terms, promises 6 to 11 and 43 to 46, and
 * that what is refused, or only asked, changes nothing.
 */
public final class ChangeBoundsTest extends Bench {
    /** Something to undo, an IMAGE that is unlike what is now, and bytes on the TAPE. */
    private static LatchTimes busy() {
        LatchTimes x = given(RING);
        x.period(30);
        x.keep();
        x.phase(0, 1, 31);
        x.delay(0, 13, 5);
        x.skew(2);
        feed(x, "skew 4;seed 9;");
        return x;
    }

    private static List<Long> net(LatchTimes x) {
        List<Long> told = new ArrayList<>();
        for (int what : new int[] {0, 1, 2, 3, 4, 7, 8}) {
            told.add((long) x.count(what));
        }
        for (int p = 0; p < x.count(0); p++) {
            told.add(64L * x.opens(p, 0) + x.opens(p, 1));
        }
        for (int c = 0; c < x.count(1); c++) {
            for (int what = 0; what <= 4; what++) {
                told.add((long) x.cell(c, what));
            }
            told.add(x.leaves(c));
        }
        for (int p = 0; p < x.count(2); p++) {
            for (int what = 0; what <= 3; what++) {
                told.add((long) x.path(p, what));
            }
        }
        told.add((long) x.good());
        told.add(x.ratio(false));
        told.add((long) x.leastPeriod());
        told.add((long) x.chance(-1, 3, 2));
        return told;
    }

    private static List<Long> all(LatchTimes x) {
        List<Long> told = net(x);
        told.add((long) x.count(5));
        told.add((long) x.count(6));
        told.add((long) x.fault(0));
        told.add((long) x.fault(1));
        return told;
    }

    private static void dueAlike(String where, String call, List<Long> got, List<Long> want) {
        due(where, call + ": " + got + " where " + want + " is due", got.equals(want), true);
    }

    /** Whether two objects are alike now, behind undo(), behind back() and behind text(): all that they can show. */
    private static void dueAlike(String where, String call, LatchTimes x, LatchTimes y) {
        dueAlike(where, call, all(x), all(y));
        due(where, call + ", undo() behind it", x.undo(), y.undo());
        dueAlike(where, call + ", undone", net(x), net(y));
        due(where, call + ", back() behind it", x.back(), y.back());
        dueAlike(where, call + ", as in the IMAGE", net(x), net(y));
        due(where, call + ", text() behind it", x.text(14), y.text(14));
        dueAlike(where, call + ", the TEXT of the TAPE", all(x), all(y));
    }

    private static void refused(String call, ToLongFunction<LatchTimes> asked, long answer) {
        LatchTimes x = busy();
        due("what is refused", call, asked.applyAsLong(x), answer);
        dueAlike("A call that is refused changes nothing", call, x, busy());
    }

    // ---- Promises 6 to 11: what is refused

    private static void refusedNumbers() {
        for (int n : new int[] {0, -1, 10000, 10001, LEAST_INT, GREATEST_INT, 65536 + 5}) {
            refused("period(" + n + ")", x -> x.period(n), -1);
        }
        for (int n : new int[] {-1, 100, 101, LEAST_INT, GREATEST_INT, 256}) {
            refused("skew(" + n + ")", x -> x.skew(n), -1);
        }
        for (int cell : new int[] {-1, 3, 4, 10, 31, 32, 33, 34, -30, -31, -32, LEAST_INT, GREATEST_INT}) {
            refused("flop(" + cell + ")", x -> x.flop(cell), -1);
            refused("move(" + cell + ", 0)", x -> x.move(cell, 0) ? 1 : 0, 0);
        }
        for (int n : new int[] {-1, 21, LEAST_INT, GREATEST_INT}) {
            refused("text(" + n + ")", x -> x.text(n), -2);
        }
    }

    private static void refusedPhases() {
        int[][] rows = {{-1, 0, 1}, {2, 0, 1}, {3, 0, 1}, {4, 0, 1}, {LEAST_INT, 0, 1}, {GREATEST_INT, 0, 1}, {0, -1, 1},
            {0, 64, 1}, {0, 65, 1}, {0, LEAST_INT, 1}, {0, GREATEST_INT, 1}, {1, 0, 0}, {1, 0, -1}, {1, 0, 64}, {1, 0, 65},
            {1, 0, LEAST_INT}, {1, 0, GREATEST_INT}, {1, 64, 64}, {2, 64, 64}};
        for (int[] r : rows) {
            refused("phase(" + r[0] + ", " + r[1] + ", " + r[2] + ")", x -> x.phase(r[0], r[1], r[2]) ? 1 : 0, 0);
        }
    }

    private static void refusedDelays() {
        int[][] rows = {{-1, 1, 1}, {4, 1, 1}, {5, 1, 1}, {24, 1, 1}, {LEAST_INT, 1, 1}, {GREATEST_INT, 1, 1}, {0, -1, 0},
            {0, -1, -1}, {0, 1000, 0}, {0, 1000, 1000}, {0, 1001, 1}, {0, LEAST_INT, 0}, {0, LEAST_INT, LEAST_INT},
            {0, GREATEST_INT, 0}, {3, 5, 6}, {3, 0, 1}, {3, 999, 1000}, {3, 5, -1}, {3, 0, -1}, {3, 5, LEAST_INT},
            {3, 5, GREATEST_INT}};
        for (int[] r : rows) {
            refused("delay(" + r[0] + ", " + r[1] + ", " + r[2] + ")", x -> x.delay(r[0], r[1], r[2]) ? 1 : 0, 0);
        }
    }

    private static void refusedMoves() {
        for (int n : new int[] {-1000, 1000, -1001, LEAST_INT, LEAST_INT + 1, GREATEST_INT}) {
            for (int cell = -1; cell <= 3; cell++) {
                int c = cell;
                refused("move(" + c + ", " + n + ")", x -> x.move(c, n) ? 1 : 0, 0);
            }
        }
        // f: from b 5 1, to a 13 5; a: from f 13 5, from b 8 8, to b 9 3; b: from a 9 3, to a 8 8, to f 5 1
        int[][] rows = {{0, -2}, {0, 6}, {1, -6}, {1, 4}, {2, -4}, {2, 2}};
        int[][] allowed = {{0, -1}, {0, 5}, {1, -5}, {1, 3}, {2, -3}, {2, 1}};
        for (int i = 0; i < rows.length; i++) {
            int[] r = rows[i];
            refused("LEAST below 0: move(" + r[0] + ", " + r[1] + ")", x -> x.move(r[0], r[1]) ? 1 : 0, 0);
            due("a MOST, LEAST would be below 0", "move(" + allowed[i][0] + ", " + allowed[i][1] + ")",
                    busy().move(allowed[i][0], allowed[i][1]), true);
        }
    }

    private static void movesUpToTheEnd() {
        String where = "false: a MOST, LEAST would be below 0, above 999 then";
        String net = "phase p 0 1;flop a p 0 0 0;flop b p 0 0 0;flop c p 0 0 0;path a b 0 0;path b c 999 999;path b b 500 100;";
        LatchTimes x = given(net);
        due(where, "move(1, 1000)", x.move(1, 1000), false);
        due(where, "move(1, 999)", x.move(1, 999), true);
        dueRow("n more, n less; of one from it to itself: neither", "MOST, LEAST", row(x.path(0, 2), x.path(0, 3), x.path(1, 2),
                x.path(1, 3), x.path(2, 2), x.path(2, 3)), 999, 999, 0, 0, 500, 100);
        due(where, "move(1, 1)", x.move(1, 1), false);
        due(where, "move(1, -1000)", x.move(1, -1000), false);
        due(where, "move(1, -999)", x.move(1, -999), true);
        dueRow(where, "MOST, LEAST", row(x.path(0, 2), x.path(0, 3), x.path(1, 2), x.path(1, 3), x.path(2, 2), x.path(2, 3)),
                0, 0, 999, 999, 500, 100);
        due(where, "move(1, -1)", x.move(1, -1), false);
        LatchTimes most = given("phase p 0 1;flop a p 0 0 0;flop b p 0 0 0;flop c p 0 0 0;path a b 990 5;path b c 995 3;");
        due(where, "MOST of a path to it would be 1000", most.move(1, 10), false);
        due(where, "MOST of a path to it, LEAST of one from it", most.move(1, 4), false);
        due(where, "LEAST of a path from it is 0 then", most.move(1, 3), true);
        due(where, "MOST of a path from it would be 1000", most.move(1, -8), false);
        due(where, "MOST of a path from it is 999 then", most.move(1, -7), true);
        due(where, "MOST of a path to it would be 1000", most.move(1, 14), false);
        LatchTimes to = given("phase p 0 1;flop a p 0 0 0;flop b p 0 0 0;path a b 990 5;");
        dueRow(where, "a path to it alone", row(to.move(1, 10) ? 1 : 0, to.move(1, 9) ? 1 : 0, to.move(1, 1) ? 1 : 0,
                to.move(1, -15) ? 1 : 0, to.move(1, -14) ? 1 : 0), 0, 1, 0, 0, 1);
        LatchTimes from = given("phase p 0 1;flop a p 0 0 0;flop b p 0 0 0;path a b 990 5;");
        dueRow(where, "a path from it alone", row(from.move(0, -10) ? 1 : 0, from.move(0, -9) ? 1 : 0, from.move(0, -1) ? 1 : 0,
                from.move(0, 15) ? 1 : 0, from.move(0, 14) ? 1 : 0), 0, 1, 0, 0, 1);
        where = "n -999 .. 999";
        LatchTimes bare = given("phase p 0 1;flop a p 0 0 0;path a a 5 5;");
        dueRow(where, "a CELL without others", row(bare.move(0, -1000) ? 1 : 0, bare.move(0, -999) ? 1 : 0,
                bare.move(0, 999) ? 1 : 0, bare.move(0, 1000) ? 1 : 0, bare.count(5), bare.path(0, 2)), 0, 1, 1, 0, 2, 5);
    }

    private static int cellAsked(LatchTimes x, int cell, int what) {
        try {
            return x.cell(cell, what);
        } catch (IndexOutOfBoundsException e) {
            return -10;
        } catch (NoSuchElementException e) {
            return -20;
        }
    }

    private static void refusedQuestions() {
        refused("cell(3, 0)", x -> cellAsked(x, 3, 0), -10);
        refused("cell(-1, 7)", x -> cellAsked(x, -1, 7), -10);
        refused("cell(0, 7)", x -> cellAsked(x, 0, 7), -20);
        refused("fault(2)", x -> x.fault(2), -1);
        refused("named(2, 0)", x -> x.named(2, 0), -1);
        refused("path(4, 0)", x -> x.path(4, 0), -1);
        refused("opens(2, 0)", x -> x.opens(2, 0), -1);
        refused("leaves(3)", x -> x.leaves(3), -1);
        refused("comes(3)", x -> x.comes(3), NO);
        refused("room(3)", x -> x.room(3), NO);
        refused("from(3)", x -> x.from(3), -1);
        refused("chain(0, -1)", x -> x.chain(0, -1), -1);
        refused("which(2)", x -> x.which(2), -1);
        refused("gap(4)", x -> x.gap(4), NO);
        refused("pad(4)", x -> x.pad(4), -1);
        refused("wave(0, 201)", x -> x.wave(0, 201), NO);
        refused("fails(3)", x -> x.fails(3), -1);
        refused("loop(-1)", x -> x.loop(-1), -1);
        refused("loop(9)", x -> x.loop(9), -2);
        refused("slower(4)", x -> x.slower(4), -1);
        refused("bestOpens(2)", x -> x.bestOpens(2), -1);
        refused("bestTwo(1, 1)", x -> x.bestTwo(1, 1), -1);
        refused("gain(4)", x -> x.gain(4), -1);
        refused("bestMove(3)", x -> x.bestMove(3), -3000);
        refused("leastWidth(2)", x -> x.leastWidth(2), -1);
        refused("near(4)", x -> x.near(4), NO);
        refused("nearest(-1)", x -> x.nearest(-1), -1);
        refused("nearest(4)", x -> x.nearest(4), -2);
        refused("event(4, 0)", x -> x.event(4, 0), -1);
        refused("open(1920)", x -> x.open(1920), -1);
        refused("chance(0, 41, 0)", x -> x.chance(0, 41, 0), -1);
        refused("count(9)", x -> x.count(9), -1);
    }

    private static void refusedWhenEmpty() {
        String where = "A call that is refused changes nothing";
        LatchTimes x = given(RING);
        due("NONE: none", "undo()", x.undo(), -1);
        due("NONE: there is none", "back()", x.back(), -1);
        dueAlike(where, "undo() of nothing, back() without an IMAGE", all(x), all(given(RING)));
        LatchTimes full = given(RING);
        LatchTimes other = given(RING);
        for (int i = 0; i < 35; i++) {
            full.feed(0x20202020, 0x20202020, 0x20202020, 0x20202020, 0x20202020);
            other.feed(0x20202020, 0x20202020, 0x20202020, 0x20202020, 0x20202020);
        }
        due("NONE, and none come", "feed", full.feed(-1, -1, -1, -1, -1), -1);
        dueAlike(where, "feed beyond 700", all(full), all(other));
        due(where, "text behind it", full.text(700), 0);
        // a TEXT with a FAULT: all but the TAPE and the FAULT stays
        LatchTimes z = busy();
        LatchTimes as = busy();
        feed(z, "?");
        due("NONE with a FAULT, all else stays", "text(21)", z.text(21), -1);
        dueAlike("NONE with a FAULT, all else stays", "text(21)", net(z), net(as));
        due("NONE with a FAULT, all else stays", "undo()", z.undo(), as.undo());
        dueAlike("NONE with a FAULT, all else stays", "text(21), undone", net(z), net(as));
        due("NONE with a FAULT, all else stays", "back()", z.back(), as.back());
        dueAlike("NONE with a FAULT, all else stays", "text(21), back", net(z), net(as));
    }

    // ---- What is only asked

    private static final int ALL_ASKED = 34;

    /** Each call that only asks, by its number, with arguments that hold. */
    private static long ask(LatchTimes x, int which) {
        switch (which) {
            case 0: return x.leaves(1);
            case 1: return x.comes(1);
            case 2: return x.room(1);
            case 3: return x.from(1);
            case 4: return x.chain(1, 1);
            case 5: return x.which(0);
            case 6: return x.which(1);
            case 7: return x.good();
            case 8: return x.gap(0);
            case 9: return x.pad(1);
            case 10: return x.pads();
            case 11: return x.wave(1, 200);
            case 12: return x.fails(1);
            case 13: return x.ratio(true);
            case 14: return x.loop(1);
            case 15: return x.leastPeriod();
            case 16: return x.slower(0);
            case 17: return x.slower(3);
            case 18: return x.bestOpens(0);
            case 19: return x.bestOpens(1);
            case 20: return x.bestTwo(0, 1);
            case 21: return x.bestTwo(1, 0);
            case 22: return x.gain(1);
            case 23: return x.breaks();
            case 24: return x.bestMove(0);
            case 25: return x.bestMove(1);
            case 26: return x.leastWidth(0);
            case 27: return x.flops();
            case 28: return x.near(1);
            case 29: return x.nearest(0);
            case 30: return x.event(0, 0);
            case 31: return x.chance(77, 40, 0);
            case 32: return x.chance(77, 40, 1);
            default: return x.chance(77, 40, 2);
        }
    }

    private static LatchTimes busyAt(int state) {
        LatchTimes x = busy();
        if (state == 1) {
            x.period(12);
        } else if (state == 2) {
            // from f to a flop a, 999 units by a SHIFT of 1
            x.delay(0, 999, 999);
            x.flop(1);
            x.phase(1, 2, 30);
        } else if (state == 3) {
            x.flop(1);
            x.flop(2);
        }
        return x;
    }

    /** GOOD, FOREVER, without a LEAST PERIOD, flops alone that are not all MET. */
    private static void askedChangesNothing() {
        due("the states are unlike", "good()", 1000 * busyAt(0).good() + 100 * busyAt(1).good() + 10 * busyAt(2).good()
                + busyAt(3).good(), 2011);
        due("the states are unlike", "no LEAST PERIOD", busyAt(2).leastPeriod(), -2);
        for (int state = 0; state < 4; state++) {
            for (int which = 0; which < ALL_ASKED; which++) {
                LatchTimes x = busyAt(state);
                long first = ask(x, which);
                String call = "question " + which + " at state " + state;
                due("What is asked is answered alike again", call, ask(x, which), first);
                dueAlike("What is asked changes nothing", call, x, busyAt(state));
            }
            LatchTimes x = busyAt(state);
            for (int which = 0; which < ALL_ASKED; which++) {
                due("What is asked changes nothing", "question " + which + " behind the others", ask(x, which),
                        ask(busyAt(state), which));
            }
        }
    }

    // ---- Promises 6 to 11: the last values that are allowed

    private static void allowed() {
        LatchTimes x = given(RING);
        String where = "PERIOD becomes 1 .. 9999: what it was";
        dueRow(where, "period", row(x.period(1), x.period(9999), x.period(2), x.period(9998), x.count(3)), 20, 1, 9999, 2, 9998);
        where = "SKEW becomes 0 .. 99: what it was";
        dueRow(where, "skew", row(x.skew(0), x.skew(99), x.skew(1), x.count(7)), 1, 0, 99, 1);
        where = "OPENS 0 .. 63, WIDTH 1 .. 63 of a PHASE: true";
        for (int[] r : new int[][] {{0, 0, 1}, {0, 63, 1}, {1, 0, 63}, {1, 63, 63}}) {
            due(where, "phase", x.phase(r[0], r[1], r[2]), true);
            dueRow(where, "OPENS, WIDTH", row(x.opens(r[0], 0), x.opens(r[0], 1)), r[1], r[2]);
        }
        dueRow(where, "the other PHASE stays", row(x.opens(0, 0), x.opens(0, 1)), 63, 1);
        where = "MOST 0 .. 999, LEAST 0 .. MOST of a path: true";
        for (int[] r : new int[][] {{0, 0, 0}, {0, 999, 0}, {3, 999, 999}, {3, 1, 1}, {3, 1, 0}}) {
            due(where, "delay", x.delay(r[0], r[1], r[2]), true);
            dueRow(where, "MOST, LEAST", row(x.path(r[0], 2), x.path(r[0], 3)), r[1], r[2]);
        }
        dueRow(where, "another path stays", row(x.path(0, 2), x.path(0, 3), x.path(1, 2), x.path(1, 3)), 999, 0, 9, 3);
        where = "whether it is a flop then (1, 0)";
        dueRow(where, "flop", row(x.flop(0), x.flop(0), x.flop(2), x.flop(2), x.flop(2)), 0, 1, 1, 0, 1);
        dueRow(where, "flops, latches", row(x.count(4), x.count(8), x.cell(2, 4)), 2, 1, 1);
        LatchTimes ten = given("phase p 0 1;phase q 0 1;phase r 0 1;phase s 0 1;latch a p 0 0 0;latch b p 0 0 0;latch c p 0 0 0;"
                + "latch d p 0 0 0;latch e p 0 0 0;latch f p 0 0 0;latch g p 0 0 0;latch h p 0 0 0;latch i p 0 0 0;latch j p 0 0 0;");
        for (int cell = 0; cell < 10; cell++) {
            due(where, "flop(" + cell + ")", ten.flop(cell), 1);
            dueRow(where, "flops, latches", row(ten.count(4), ten.count(8)), cell + 1, 9 - cell);
        }
        due(where, "flop(10)", ten.flop(10), -1);
        due("the last PHASE", "phase(3, 5, 6)", ten.phase(3, 5, 6), true);
        due("no such ones", "phase(4, 5, 6)", ten.phase(4, 5, 6), false);
        due("the last CELL", "move(9, 5)", ten.move(9, 5), true);
        due("no such ones", "move(10, 5)", ten.move(10, 5), false);
    }

    private static void lastPath() {
        StringBuilder t = new StringBuilder("phase p 0 1;");
        for (char c = 'a'; c <= 'e'; c++) {
            t.append("latch ").append(c).append(" p 0 0 0;");
        }
        for (int i = 0; i < 24; i++) {
            t.append("path ").append((char) ('a' + i / 5)).append(' ').append((char) ('a' + i % 5)).append(" 1 1;");
        }
        LatchTimes x = given(t.toString());
        due("the last path", "delay(23, 999, 999)", x.delay(23, 999, 999), true);
        due("the last path", "MOST", x.path(23, 2), 999);
        due("no such ones", "delay(24, 5, 5)", x.delay(24, 5, 5), false);
        due("no such path", "path(24, 0)", x.path(24, 0), -1);
        x.keep();
        due("the last path", "delay(23, 7, 6)", x.delay(23, 7, 6), true);
        x.undo();
        dueRow("is undone", "MOST, LEAST", row(x.path(23, 2), x.path(23, 3)), 999, 999);
        x.delay(23, 7, 6);
        x.back();
        dueRow("is as in the IMAGE", "MOST, LEAST", row(x.path(23, 2), x.path(23, 3)), 999, 999);
    }

    // ---- Promise 43

    /** A change of each kind, by its number. */
    private static boolean change(LatchTimes x, int i) {
        switch (i % 6) {
            case 0:
                return x.period(100 + i) != -1;
            case 1:
                return x.phase(i % 2, i, i + 1);
            case 2:
                return x.delay(i % 4, 50 + i, i);
            case 3:
                return x.flop(i % 3) != -1;
            case 4:
                return x.skew(i) != -1;
            default:
                return x.move(1, i % 12 == 5 ? 1 : -1);
        }
    }

    private static void undone() {
        String where = "can be undone, the latest first (20 at most)";
        for (int changes : new int[] {0, 1, 19, 20, 21, 22, 30}) {
            LatchTimes x = given(RING);
            List<List<Long>> states = new ArrayList<>();
            for (int i = 0; i < changes; i++) {
                states.add(compact(x));
                due(where, "change " + i, change(x, i), true);
                due(where, "what can be undone", x.count(5), Math.min(i + 1, 20));
            }
            int left = Math.min(changes, 20);
            for (int i = 1; left > 0; i++) {
                left--;
                due("how many are left", "undo()", x.undo(), left);
                dueAlike(where, "of " + changes + " changes " + i + " undone", compact(x), states.get(changes - i));
            }
            dueRow("NONE: none", "undo()", row(x.undo(), x.undo(), x.count(5)), -1, -1, 0);
            dueAlike("NONE: none", "of " + changes + " changes", compact(x), changes == 0 ? compact(x)
                    : states.get(Math.max(0, changes - 20)));
        }
    }

    /** As much as can be asked so often in 512 calls. */
    private static List<Long> compact(LatchTimes x) {
        List<Long> told = new ArrayList<>(List.of((long) x.count(3), (long) x.count(4), (long) x.count(7), x.leaves(1)));
        for (int p = 0; p < 2; p++) {
            told.add((long) x.opens(p, p));
            told.add((long) x.path(2 * p, 2 + p));
        }
        return told;
    }

    private static void undoneBetween() {
        String where = "Each call that changes something (also to what it is already; a move of 0, too) can be undone";
        LatchTimes x = given(RING);
        x.period(20);
        x.skew(1);
        x.phase(0, 0, 32);
        x.delay(0, 12, 4);
        x.move(1, 0);
        x.move(2, 0);
        due(where, "count(5)", x.count(5), 6);
        dueAlike(where, "nothing is other than it was", net(x), net(given(RING)));
        for (int left = 5; left >= 0; left--) {
            due(where, "undo()", x.undo(), left);
        }
        x.period(21);
        x.period(22);
        due("The latest is undone", "undo()", x.undo(), 1);
        due("The latest is undone", "PERIOD", x.count(3), 21);
        x.period(23);
        due("a change behind undo()", "count(5)", x.count(5), 2);
        dueRow("the latest first", "undo(), PERIOD", row(x.undo(), x.count(3), x.undo(), x.count(3), x.undo()), 1, 21, 0, 20, -1);
        due("what only asks can't be undone", "count(5)", x.bestTwo(0, 1) * 0 + x.keep() * 0 + x.count(5), 0);
        feed(x, "skew 4;");
        due("feed is nothing to undo", "count(5)", x.count(5), 0);
        // 20 changes, 10 undone, 15 more: the ring goes round
        LatchTimes y = given(RING);
        for (int i = 1; i <= 25; i++) {
            y.period(i);
        }
        for (int i = 0; i < 10; i++) {
            y.undo();
        }
        due("(20 at most)", "PERIOD behind ten", y.count(3), 15);
        for (int i = 101; i <= 115; i++) {
            y.period(i);
        }
        due("(20 at most)", "count(5)", y.count(5), 20);
        for (int i = 0; i < 15; i++) {
            y.undo();
        }
        due("(20 at most)", "PERIOD", y.count(3), 15);
        for (int i = 0; i < 5; i++) {
            y.undo();
        }
        dueRow("(20 at most)", "PERIOD, undo()", row(y.count(3), y.undo()), 10, -1);
    }

    // ---- Promises 44, 45

    private static void images() {
        String where = "NONE: there is none";
        LatchTimes x = new LatchTimes();
        dueRow(where, "back(), keep(), back()", row(x.back(), x.keep(), x.back(), x.back()), -1, 100, 100, 100);
        x = given(RING);
        due(where, "back() behind a text", x.back(), -1);
        where = "An IMAGE keeps PERIOD, SKEW, what PHASES, CELLS, paths have by call";
        x.phase(1, 63, 62);
        x.delay(3, 999, 998);
        x.flop(2);
        x.skew(99);
        x.period(9999);
        List<Long> kept = net(x);
        due("An IMAGE is kept: PERIOD", "keep()", x.keep(), 9999);
        due("keep() leaves what can be undone", "count(5)", x.count(5), 5);
        x.phase(1, 0, 1);
        x.delay(3, 0, 0);
        x.flop(2);
        x.flop(0);
        x.skew(0);
        x.period(1);
        x.move(1, 1);
        feed(x, "seed 1;");
        due("All is as in the IMAGE: PERIOD", "back()", x.back(), 9999);
        dueAlike(where, "all that can change", net(x), kept);
        dueRow("nothing to undo then", "count(5), undo()", row(x.count(5), x.undo(), x.count(5)), 0, -1, 0);
        due("the TAPE is no part of it", "count(6)", x.count(6), 20);
        x.period(1);
        x.skew(0);
        // without the LOOP, as b is a flop: a comes at 12 and 1 units, less 63 64ths
        dueRow("what is asked ahead of back()", "good(), leaves(1)", row(x.good(), x.leaves(1)), 1, 13 * 64 - 63);
        x.back();
        dueAlike("what is asked behind back()", "all that can change", net(x), kept);
        x.period(3);
        due("a change behind back()", "undo()", x.undo(), 0);
        x.period(4);
        due("it stays", "back()", x.back(), 9999);
        due("it stays", "back() again", x.back(), 9999);
        where = "An IMAGE is kept (in place of one ahead)";
        x.period(5);
        due(where, "keep()", x.keep(), 5);
        x.period(6);
        due(where, "back()", x.back(), 5);
        x.period(7);
        x.undo();
        due("undo() leaves the IMAGE", "back()", x.back(), 5);
        x.text(-1);
        due("a text() of -2 leaves the IMAGE", "back()", x.back(), 5);
        x.text(7);
        due("no IMAGE behind a text", "back()", x.back(), -1);
        due("no IMAGE behind a text", "PERIOD", x.count(3), 100);
    }

    // ---- Promise 46, and 512 calls

    private static void counts() {
        LatchTimes x = given("period 9999;skew 99;phase a 0 1;phase b 0 1;phase c 0 1;phase d 0 1;flop a a 0 0 0;flop b a 0 0 0;"
                + "flop c a 0 0 0;flop d a 0 0 0;flop e a 0 0 0;flop f a 0 0 0;flop g a 0 0 0;flop h a 0 0 0;flop i a 0 0 0;"
                + "flop j a 0 0 0;");
        for (int i = 0; i < 21; i++) {
            x.period(9999);
        }
        for (int i = 0; i < 36; i++) {
            x.feed(0, 0, 0, 0, 0);
        }
        int[] counts = {4, 10, 0, 9999, 10, 20, 700, 99, 0};
        for (int what = 0; what <= 8; what++) {
            due("0 PHASES .. 8 latches", "count(" + what + ")", x.count(what), counts[what]);
        }
        for (int what : new int[] {-1, 9, 10, LEAST_INT, GREATEST_INT}) {
            due("NONE for another what", "count(" + what + ")", x.count(what), -1);
        }
        for (int cell = 0; cell < 10; cell++) {
            x.flop(cell);
        }
        dueRow("4 flops, 8 latches", "count", row(x.count(4), x.count(8)), 0, 10);
        x.text(0);
        dueRow("behind a TEXT without LINES", "count", row(x.count(0), x.count(1), x.count(2), x.count(3), x.count(4), x.count(5),
                x.count(6), x.count(7), x.count(8)), 0, 0, 0, 100, 0, 0, 0, 0, 0);
    }

    private static void manyCalls() {
        String where = "An object is used for at most 512 calls after it has been made";
        LatchTimes x = new LatchTimes();
        feed(x, RING);
        int calls = (RING.length() + 19) / 20 + 1;
        due(where, "text", x.text(RING.length()), 12);
        for (int n = 1; calls < 511; calls++, n++) {
            due(where, "period, call " + calls, x.period(n), n == 1 ? 20 : n - 1);
        }
        due(where, "undo(), call 512", x.undo(), 19);
        LatchTimes y = given(RING);
        int two = y.bestTwo(0, 1);
        for (int i = 0; i < 480; i++) {
            due(where, "bestTwo, again and again", y.bestTwo(0, 1), two);
        }
    }

    public static void main(String[] args) {
        refusedNumbers();
        refusedPhases();
        refusedDelays();
        refusedMoves();
        movesUpToTheEnd();
        refusedQuestions();
        refusedWhenEmpty();
        askedChangesNothing();
        allowed();
        lastPath();
        undone();
        undoneBetween();
        images();
        counts();
        manyCalls();
        endOfTest();
    }
}
