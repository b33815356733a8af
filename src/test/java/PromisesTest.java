import java.util.NoSuchElementException;

/** The promises one by one, with answers worked out by hand from the document. */
public final class PromisesTest extends Bench {
    /** Three flops in a row, of one phase, with nothing but delays. */
    private static final String ROW = "phase c 0 1;flop f c 0 0 0;flop g c 0 0 0;flop h c 0 0 0;path f g 20 8;"
            + "path g h 10 6;";

    /** A path of one 64th of the period, which no period of 9999 is enough for. */
    private static final String HOPELESS = "phase p 0 9;phase q 1 9;phase r 5 9;flop a p 0 0 0;flop b q 0 0 0;"
            + "path a b 999 999;";

    private static void dueFault(String text, int code, int place) {
        LatchTimes x = given("period 7;");
        feed(x, text);
        due(3, "text of \"" + text + "\"", x.text(text.length()), -1);
        due(3, "FAULT of \"" + text + "\"", x.fault(0), code);
        due(3, "place in \"" + text + "\"", x.fault(1), place);
        due(3, "PERIOD behind it", x.count(3), 7);
    }

    private static void dueLines(String text, int lines) {
        LatchTimes x = new LatchTimes();
        feed(x, text);
        due(3, "text of \"" + text + "\"", x.text(text.length()), lines);
        due(4, "no FAULT", x.fault(0), 0);
        due(4, "no place", x.fault(1), -1);
    }

    private static void newObject() {
        LatchTimes x = new LatchTimes();
        int[] counts = {0, 0, 0, 100, 0, 0, 0, 0, 0};
        for (int i = 0; i < counts.length; i++) {
            due(1, "count(" + i + ")", x.count(i), counts[i]);
        }
        due(1, "good()", x.good(), 2);
        due(1, "leastPeriod()", x.leastPeriod(), 1);
        due(1, "fault(0)", x.fault(0), 0);
        due(1, "fault(1)", x.fault(1), -1);
        due(1, "undo()", x.undo(), -1);
        due(1, "back()", x.back(), -1);
        due(1, "text(0)", x.text(0), 0);
        due(1, "text(1)", x.text(1), -2);
    }

    private static void tape() {
        LatchTimes x = new LatchTimes();
        for (int i = 1; i <= 35; i++) {
            due(2, "feed", x.feed(0x20202020, 0x20202020, 0x20202020, 0x20202020, 0x20202020), 20 * i);
        }
        due(2, "feed beyond 700", x.feed(0x3b3b3b3b, 1, 1, 1, 1), -1);
        due(2, "count(6)", x.count(6), 700);
        due(2, "text of blanks", x.text(700), 0);
        due(2, "count(6)", x.count(6), 0);
        // "period 5;" with the highest byte of each number first
        due(2, "feed", x.feed(0x70657269, 0x6f642035, 0x3b000000, -1, -1), 20);
        due(2, "text(9)", x.text(9), 1);
        due(2, "PERIOD", x.count(3), 5);
        x.feed(0x20202020, 0x80202020, 0, 0, 0);
        due(2, "text with a byte 128", x.text(8), -1);
        due(2, "its place", x.fault(1), 4);
    }

    private static void texts() {
        dueLines("", 0);
        dueLines(" \n ", 0);
        dueLines("period 9999;skew 99;seed 99999;", 3);
        dueLines("period1;\nskew0;seed 000000;", 3);
        dueLines("phase abcdef 63 63;latch abcdef abcdef 99 99 99;path abcdef abcdef 999 999;", 3);
        dueLines("phase a 0 1;phase b 0 1;phase c 0 1;phase d 0 1;", 4);
        dueFault("period 10000;", 2, 7);
        dueFault("period 99999999999999999999;", 2, 7);
        dueFault("period 0;", 2, 7);
        dueFault("skew 100;", 2, 5);
        dueFault("seed 100000;", 2, 5);
        dueFault("period 1;period", 3, 9);
        dueFault("skew 1;skew 1;", 3, 7);
        dueFault("seed 1; seed 1;", 3, 8);
        dueFault("phase p 64 1;", 2, 8);
        dueFault("phase p 0 0;", 2, 10);
        dueFault("phase p 0 64;", 2, 10);
        dueFault("phase p 0 1;phase p 0 1;", 3, 18);
        dueFault("phase a 0 1;phase b 0 1;phase c 0 1;phase d 0 1;phase a", 2, 48);
        dueFault("phase p 0 1;latch a q", 4, 20);
        dueFault("phase p 0 1;latch a p 100 0 0;", 2, 22);
        dueFault("phase p 0 1;latch a p 0 100 0;", 2, 24);
        dueFault("phase p 0 1;flop a p 0 0 100;", 2, 25);
        dueFault("phase p 0 1;flop a p 0 0 0;latch a", 3, 33);
        dueFault("phase p 0 1;flop a p 0 0 0;path b a 1 1;", 4, 32);
        dueFault("phase p 0 1;flop a p 0 0 0;path a b 1 1;", 4, 34);
        dueFault("phase p 0 1;flop a p 0 0 0;path a a 1000 1;", 2, 36);
        dueFault("phase p 0 1;flop a p 0 0 0;path a a 5 6;", 2, 38);
        dueFault("phase p 0 1;flop a p 0 0 0;path a a 5 5;path a a", 3, 47);
        dueFault(";", 1, 0);
        dueFault("period;", 1, 6);
        dueFault("period 5", 1, 8);
        dueFault("period 5 \n", 1, 10);
        dueFault("period 5,", 1, 8);
        dueFault("period 5 6;", 1, 9);
        dueFault("periods 5;", 1, 0);
        dueFault("perio 5;", 1, 0);
        dueFault("Period 5;", 1, 0);
        dueFault("period -5;", 1, 7);
        dueFault("period\t5;", 1, 6);
        dueFault("phase abcdefg 0 1;", 1, 6);
        dueFault("phase flop 0 1;", 1, 6);
        dueFault("phase 1 0 1;", 1, 6);
        dueFault("phase p1 2 3;", 1, 11);
        dueFault("phase p 0 1;path path a", 1, 17);
        StringBuilder full = new StringBuilder("phase p 0 1;");
        for (char c = 'a'; c <= 'j'; c++) {
            full.append("flop ").append(c).append(" p 0 0 0;");
        }
        dueLines(full.toString(), 11);
        dueFault(full + "latch a", 2, full.length());
        for (int i = 0; i < 24; i++) {
            full.append("path ").append((char) ('a' + i / 10)).append(' ').append((char) ('a' + i % 10));
            full.append(" 1 1;");
        }
        dueLines(full.toString(), 35);
        dueFault(full + "path ? ", 2, full.length());
    }

    private static void textKeepsOrDrops() {
        LatchTimes x = given(RING);
        x.keep();
        x.period(30);
        feed(x, "period 0;");
        due(3, "text(-1)", x.text(-1), -2);
        due(3, "text(21)", x.text(21), -2);
        due(3, "TAPE behind -2", x.count(6), 20);
        due(4, "fault behind -2", x.fault(0), 0);
        due(3, "text(9)", x.text(9), -1);
        due(3, "TAPE behind a FAULT", x.count(6), 0);
        due(4, "fault(0)", x.fault(0), 2);
        due(4, "fault(1)", x.fault(1), 7);
        due(4, "fault(2)", x.fault(2), -1);
        due(4, "fault(-1)", x.fault(-1), -1);
        due(3, "what stays: PERIOD", x.count(3), 30);
        due(3, "what stays: undo", x.undo(), 0);
        due(3, "what stays: IMAGE", x.back(), 20);
        x.period(31);
        feed(x, "skew 4;");
        due(3, "text(7)", x.text(7), 1);
        due(3, "CELLS gone", x.count(1), 0);
        due(3, "PERIOD as without LINES", x.count(3), 100);
        due(3, "nothing to undo", x.undo(), -1);
        due(3, "no IMAGE", x.back(), -1);
        due(4, "fault(0)", x.fault(0), 0);
    }

    private static void names() {
        LatchTimes x = given("phase abcdef 0 1;phase a 0 1;flop b a 0 0 0;latch abcdef a 0 0 0;");
        due(5, "PHASE abcdef", x.named(0, letters("abcdef")), 0);
        due(5, "PHASE a", x.named(0, 1 << 25), 1);
        due(5, "CELL b", x.named(1, letters("b")), 0);
        due(5, "CELL abcdef", x.named(1, letters("abcdef")), 1);
        due(5, "no PHASE b", x.named(0, letters("b")), -1);
        due(5, "no CELL a", x.named(1, letters("a")), -1);
        due(5, "letters at the wrong end", x.named(0, 1), -1);
        due(5, "nothing", x.named(0, 0), -1);
        due(5, "below 0", x.named(1, -1), -1);
        due(5, "kind 2", x.named(2, letters("a")), -1);
        due(5, "kind -1", x.named(-1, letters("a")), -1);
    }

    private static void changes() {
        LatchTimes x = given(RING);
        due(6, "period(9999)", x.period(9999), 20);
        due(6, "period(1)", x.period(1), 9999);
        due(6, "period(0)", x.period(0), -1);
        due(6, "period(10000)", x.period(10000), -1);
        due(6, "PERIOD", x.count(3), 1);
        due(7, "phase(1, 63, 63)", x.phase(1, 63, 63), true);
        due(7, "phase(1, 0, 1)", x.phase(1, 0, 1), true);
        due(7, "phase(2, 0, 1)", x.phase(2, 0, 1), false);
        due(7, "phase(-1, 0, 1)", x.phase(-1, 0, 1), false);
        due(7, "phase(0, 64, 1)", x.phase(0, 64, 1), false);
        due(7, "phase(0, -1, 1)", x.phase(0, -1, 1), false);
        due(7, "phase(0, 0, 0)", x.phase(0, 0, 0), false);
        due(7, "phase(0, 0, 64)", x.phase(0, 0, 64), false);
        due(7, "OPENS", x.opens(1, 0), 0);
        due(7, "WIDTH", x.opens(1, 1), 1);
        due(8, "delay(3, 999, 0)", x.delay(3, 999, 0), true);
        due(8, "delay(3, 0, 0)", x.delay(3, 0, 0), true);
        due(8, "delay(3, 7, 7)", x.delay(3, 7, 7), true);
        due(8, "delay(3, 7, 8)", x.delay(3, 7, 8), false);
        due(8, "delay(3, 1000, 8)", x.delay(3, 1000, 8), false);
        due(8, "delay(3, 7, -1)", x.delay(3, 7, -1), false);
        due(8, "delay(3, -1, -2)", x.delay(3, -1, -2), false);
        due(8, "delay(4, 7, 7)", x.delay(4, 7, 7), false);
        due(8, "delay(-1, 7, 7)", x.delay(-1, 7, 7), false);
        due(8, "MOST", x.path(3, 2), 7);
        due(8, "LEAST", x.path(3, 3), 7);
        due(9, "flop(0)", x.flop(0), 0);
        due(9, "flop(2)", x.flop(2), 1);
        due(9, "flop(2)", x.flop(2), 0);
        due(9, "flop(3)", x.flop(3), -1);
        due(9, "flop(-1)", x.flop(-1), -1);
        due(9, "flops", x.count(4), 0);
        due(9, "latches", x.count(8), 3);
        due(10, "skew(99)", x.skew(99), 1);
        due(10, "skew(0)", x.skew(0), 99);
        due(10, "skew(-1)", x.skew(-1), -1);
        due(10, "skew(100)", x.skew(100), -1);
        due(10, "SKEW", x.count(7), 0);
        due(10, "refused calls leave nothing to undo", x.count(5), 12);
    }

    private static void moves() {
        LatchTimes x = given("phase c 0 1;flop f c 0 0 0;flop g c 0 0 0;latch h c 0 0 0;path f g 20 8;path g h 10 6;"
                + "path g g 5 1;");
        due(11, "move(1, 6)", x.move(1, 6), true);
        int[] most = {26, 4, 5};
        int[] least = {14, 0, 1};
        for (int p = 0; p < 3; p++) {
            due(11, "MOST", x.path(p, 2), most[p]);
            due(11, "LEAST", x.path(p, 3), least[p]);
        }
        due(11, "LEAST below 0", x.move(1, 1), false);
        due(11, "LEAST below 0, the other way", x.move(1, -15), false);
        due(11, "move(1, -14)", x.move(1, -14), true);
        due(11, "MOST", x.path(1, 2), 18);
        due(11, "MOST above 999", x.move(2, 982), false);
        due(11, "move(2, 981)", x.move(2, 981), true);
        due(11, "MOST", x.path(1, 2), 999);
        due(11, "move(0, 0)", x.move(0, 0), true);
        due(11, "what can be undone", x.count(5), 4);
        due(11, "no such CELL", x.move(3, 0), false);
        due(11, "no such CELL", x.move(-1, 0), false);
        due(11, "n above 999", given("phase c 0 1;flop f c 0 0 0;").move(0, 1000), false);
        due(11, "n below -999", given("phase c 0 1;flop f c 0 0 0;").move(0, -1000), false);
        due(11, "n 999 without paths", given("phase c 0 1;flop f c 0 0 0;").move(0, 999), true);
        due(11, "n -999 without paths", given("phase c 0 1;flop f c 0 0 0;").move(0, -999), true);
    }

    private static int thrownBy(LatchTimes x, int cell, int what) {
        try {
            x.cell(cell, what);
        } catch (IndexOutOfBoundsException e) {
            return 1;
        } catch (NoSuchElementException e) {
            return 2;
        }
        return 0;
    }

    private static void parts() {
        LatchTimes x = given(RING);
        int[][] cells = {{0, 2, 1, 1, 1, 1, 1}, {1, 1, 1, 1, 0, 2, 1}, {0, 1, 2, 0, 0, 1, 2}};
        for (int c = 0; c < 3; c++) {
            for (int what = 0; what < 7; what++) {
                due(12, "cell(" + c + ", " + what + ")", x.cell(c, what), cells[c][what]);
            }
        }
        due(12, "cell(0, 7)", thrownBy(x, 0, 7), 2);
        due(12, "cell(0, -1)", thrownBy(x, 0, -1), 2);
        due(12, "cell(3, 0)", thrownBy(x, 3, 0), 1);
        due(12, "cell(-1, 9)", thrownBy(x, -1, 9), 1);
        int[][] paths = {{0, 1, 12, 4, 32}, {1, 2, 9, 3, 32}, {2, 1, 8, 8, 32}, {2, 0, 5, 1, 64}};
        for (int p = 0; p < 4; p++) {
            for (int what = 0; what < 5; what++) {
                due(13, "path(" + p + ", " + what + ")", x.path(p, what), paths[p][what]);
            }
        }
        x.phase(1, 1, 5);
        due(13, "SHIFT of 1", x.path(0, 4), 1);
        due(13, "SHIFT of 63", x.path(1, 4), 63);
        x.phase(1, 0, 5);
        due(13, "SHIFT to one that OPENS with it", x.path(0, 4), 64);
        due(13, "path(0, 5)", x.path(0, 5), -1);
        due(13, "path(0, -1)", x.path(0, -1), -1);
        due(13, "path(4, 0)", x.path(4, 0), -1);
        due(13, "path(-1, 0)", x.path(-1, 0), -1);
        due(14, "opens(1, 0)", x.opens(1, 0), 0);
        due(14, "opens(1, 1)", x.opens(1, 1), 5);
        due(14, "opens(0, 1)", x.opens(0, 1), 32);
        due(14, "opens(0, 2)", x.opens(0, 2), -1);
        due(14, "opens(0, -1)", x.opens(0, -1), -1);
        due(14, "opens(2, 0)", x.opens(2, 0), -1);
        due(14, "opens(-1, 0)", x.opens(-1, 0), -1);
    }

    private static void latest() {
        LatchTimes x = given(RING);
        dueRow(15, "leaves", new long[] {x.leaves(0), x.leaves(1), x.leaves(2), x.leaves(3), x.leaves(-1)},
                0, 256, 320, -1, -1);
        dueRow(16, "comes", new long[] {x.comes(0), x.comes(1), x.comes(2), x.comes(3), x.comes(-1)},
                -576, 256, 320, NO, NO);
        dueRow(17, "room", new long[] {x.room(0), x.room(1), x.room(2), x.room(3), x.room(-1)},
                448, 320, 256, NO, NO);
        // of the paths 0 and 2, by which it comes to a at one time, the first
        dueRow(18, "from", new long[] {x.from(0), x.from(1), x.from(2), x.from(3), x.from(-1)}, 3, 0, 1, -1, -1);
        // f's chain goes on though f is a flop, and comes to f again
        dueRow(19, "chain of f", new long[] {x.chain(0, 0), x.chain(0, 1), x.chain(0, 2), x.chain(0, 3),
            x.chain(0, -1), x.chain(3, 0), x.chain(-1, 0)}, 0, 2, 1, -2, -1, -1, -1);
        dueRow(19, "chain of b", new long[] {x.chain(2, 0), x.chain(2, 1), x.chain(2, 2), x.chain(2, 3)},
                2, 1, 0, -2);
        due(20, "which(0)", x.which(0), 6);
        due(20, "which(1)", x.which(1), 0);
        due(20, "which(2)", x.which(2), -1);
        due(20, "which(-1)", x.which(-1), -1);
        due(21, "good()", x.good(), 2);
        x.delay(3, 13, 1);
        due(17, "room(0)", x.room(0), -64);
        due(20, "which(1)", x.which(1), 1);
        due(21, "good()", x.good(), 1);
    }

    private static void forever() {
        LatchTimes x = given(RING);
        x.period(19);
        due(15, "leaves(1)", x.leaves(1), -2);
        due(15, "leaves(3)", x.leaves(3), -1);
        due(16, "comes(0)", x.comes(0), NO);
        due(17, "room(0)", x.room(0), NO);
        due(18, "from(1)", x.from(1), -2);
        due(18, "from(9)", x.from(9), -1);
        due(19, "chain(1, 0)", x.chain(1, 0), -2);
        due(19, "chain(1, -1)", x.chain(1, -1), -1);
        due(20, "which(0)", x.which(0), -2);
        due(20, "which(2)", x.which(2), -1);
        due(21, "good()", x.good(), 0);
        due(30, "slower(3)", x.slower(3), -2);
        due(36, "leastWidth(0)", x.leastWidth(0), -2);
        due(37, "flops()", x.flops(), -2);
        due(38, "near(0)", x.near(0), NO);
        due(39, "nearest(0)", x.nearest(0), -2);
        due(39, "nearest(-1)", x.nearest(-1), -1);
        due(22, "gap(0)", x.gap(0), 64 * 4 - 32 * 19 + 32 * 19 - 64);
        // by the flop f the loop is broken
        x.flop(1);
        due(21, "good() without a LOOP", x.good(), 1);
        due(27, "ratio without a LOOP", x.ratio(false), 0);
    }

    private static void ends() {
        LatchTimes x = given("period 10;phase p 0 8;latch a p 2 0 0;latch b p 1 0 0;flop c p 3 0 0;path a b 11 0;"
                + "path b b 0 0;");
        due(16, "COMES of a latch without paths", x.comes(0), 0);
        due(16, "COMES of a flop without paths", x.comes(2), -192);
        due(17, "ROOM of a latch without paths", x.room(0), 80 - 128);
        due(17, "ROOM of a flop without paths", x.room(2), 0);
        due(18, "FROM without paths", x.from(0), -2);
        due(19, "CHAIN without paths", x.chain(2, 0), 2);
        due(19, "CHAIN without paths", x.chain(2, 1), -2);
        due(15, "LEAVES of b", x.leaves(1), 64);
        due(19, "CHAIN of b ends with a, which leaves at 0", x.chain(1, 1), 0);
        due(19, "CHAIN of b", x.chain(1, 2), -2);
        due(38, "near of a path to itself", x.near(1), 80 - 64);
        x.delay(0, 0, 0);
        x.delay(1, 10, 0);
        due(18, "FROM of b is itself", x.from(1), 1);
        due(19, "CHAIN of b doesn't tell b again", x.chain(1, 1), -2);
        due(27, "ratio of a LOOP of one", x.ratio(false), 10);
        due(28, "its LOOP", x.loop(0), 1);
        due(28, "its LOOP", x.loop(1), -2);
        due(34, "breaks()", x.breaks(), 2);
    }

    private static void early() {
        LatchTimes x = given(RING);
        dueRow(22, "gap", new long[] {x.gap(0), x.gap(1), x.gap(2), x.gap(3), x.gap(4), x.gap(-1)},
                192, 64, 384, -64, NO, NO);
        dueRow(23, "pad", new long[] {x.pad(0), x.pad(1), x.pad(2), x.pad(3), x.pad(4), x.pad(-1)},
                0, 0, 0, 1, -1, -1);
        due(24, "pads()", x.pads(), 1);
        x.skew(3);
        dueRow(22, "gap", new long[] {x.gap(0), x.gap(1), x.gap(2), x.gap(3)}, 64, -64, 256, -192);
        due(24, "pads()", x.pads(), 4);
        x.phase(0, 0, 33);
        // GAP is -84 at a WIDTH of 33: one unit is 64, so two are needed
        due(22, "gap(1)", x.gap(1), -84);
        due(23, "pad(1)", x.pad(1), 2);
    }

    private static void wavesOn() {
        LatchTimes x = given(RING);
        int[][] rows = {{0, 0, 0}, {0, 256, 64}, {0, 256, 320}, {0, 256, 320}};
        for (int n = 0; n < 4; n++) {
            for (int c = 0; c < 3; c++) {
                due(25, "wave(" + c + ", " + n + ")", x.wave(c, n), rows[n][c]);
            }
        }
        due(25, "wave(1, 200)", x.wave(1, 200), 256);
        due(25, "wave(1, 201)", x.wave(1, 201), NO);
        due(25, "wave(1, -1)", x.wave(1, -1), NO);
        due(25, "wave(3, 0)", x.wave(3, 0), NO);
        due(25, "wave(-1, 0)", x.wave(-1, 0), NO);
        due(26, "fails(1)", x.fails(1), -2);
        due(26, "fails(3)", x.fails(3), -1);
        due(26, "fails(-1)", x.fails(-1), -1);
        x.period(19);
        due(25, "wave(1, 3), forever", x.wave(1, 3), 352);
        due(25, "wave(2, 200), forever", x.wave(2, 200), 384 + 99 * 64);
        dueRow(26, "fails", new long[] {x.fails(0), x.fails(1), x.fails(2)}, 15, 11, 8);
    }

    private static void turns() {
        LatchTimes x = given(RING);
        due(27, "ratio(false)", x.ratio(false), 20);
        due(27, "ratio(true)", x.ratio(true), 1);
        dueRow(28, "loop", new long[] {x.loop(0), x.loop(1), x.loop(2), x.loop(-1)}, 1, 2, -2, -1);
        // a alone: 1 and 7; the three: 12 by 64, 32 and 32 of 64; b alone: 6
        LatchTimes y = given("phase p 0 1;phase q 32 1;latch a p 0 0 1;latch b q 0 0 2;latch c p 0 0 3;"
                + "path a c 1 0;path c b 2 0;path b a 3 0;path a a 7 0;path b b 4 0;");
        due(27, "ratio(false)", y.ratio(false), 8);
        due(27, "ratio(true)", y.ratio(true), 1);
        due(28, "loop(0)", y.loop(0), 0);
        due(28, "loop(1)", y.loop(1), -2);
        y.delay(3, 0, 0);
        // the three: 12 units by 64 and 32 and 32; b alone: 6 by 64
        due(27, "ratio of b alone and of the three are alike", y.ratio(false), 6);
        due(28, "the one with the fewest CELLS", y.loop(0), 1);
        due(28, "it is b alone", y.loop(1), -2);
        y.delay(4, 3, 0);
        dueRow(28, "loop", new long[] {y.loop(0), y.loop(1), y.loop(2), y.loop(3)}, 0, 2, 1, -2);
        y.delay(1, 3, 0);
        due(27, "a fraction", y.ratio(false), 13);
        due(27, "a fraction", y.ratio(true), 2);
        y.delay(0, 0, 0);
        y.delay(1, 0, 0);
        y.delay(2, 0, 0);
        y.delay(4, 0, 0);
        due(27, "ratio by THROUGHS alone", y.ratio(false), 3);
        LatchTimes zero = given("phase p 0 1;latch a p 0 0 0;path a a 0 0;");
        due(27, "a TURN of 0", zero.ratio(true), 1);
        due(28, "has a LOOP", zero.loop(0), 0);
    }

    private static void periods() {
        due(29, "leastPeriod()", given(RING).leastPeriod(), 20);
        due(29, "leastPeriod() of flops", given(ROW).leastPeriod(), 20);
        due(29, "no LEAST PERIOD", given(HOPELESS).leastPeriod(), -2);
        // a latch of WIDTH 1 with a SETUP of 99: 64 times 99
        due(29, "by SETUP alone", given("phase p 0 1;latch a p 99 0 0;").leastPeriod(), 6336);
        LatchTimes x = given("phase p 0 1;phase q 1 1;flop a p 0 0 0;flop b q 1 0 0;path a b 155 0;");
        due(29, "near the end", x.leastPeriod(), 9984);
        x.skew(1);
        due(29, "beyond the end", x.leastPeriod(), -2);
        due(33, "gain where there is none", x.gain(0), -2);
        LatchTimes y = given(RING);
        dueRow(30, "slower", new long[] {y.slower(0), y.slower(1), y.slower(2), y.slower(3), y.slower(4),
            y.slower(-1)}, 16, 9, 8, 12, -1, -1);
        due(30, "MOST is as it was", y.path(0, 2), 12);
        y.delay(3, 13, 13);
        due(30, "slower where LEAST is too much", y.slower(3), -2);
        due(30, "slower of a path that could help", y.slower(0), 11);
        due(30, "slower of one that could not", y.slower(2), -2);
        LatchTimes free = given("period 9999;phase p 0 9;latch a p 0 0 0;path a a 3 0;");
        due(30, "slower up to 999", free.slower(0), 999);
        y = given(RING);
        due(33, "gain(1)", y.gain(1), 5);
        due(33, "gain(2)", y.gain(2), 0);
        due(33, "gain(4)", y.gain(4), -1);
        due(33, "gain(-1)", y.gain(-1), -1);
        due(33, "MOST is as it was", y.path(1, 2), 9);
    }

    private static void openings() {
        LatchTimes x = given("phase p 7 9;phase q 32 9;flop a p 0 0 0;flop b q 0 0 0;path a b 30 0;path b a 10 0;");
        due(31, "bestOpens(0)", x.bestOpens(0), 32);
        due(31, "bestOpens(1)", x.bestOpens(1), 7);
        due(31, "bestOpens(2)", x.bestOpens(2), -1);
        due(31, "bestOpens(-1)", x.bestOpens(-1), -1);
        due(31, "OPENS is as it was", x.opens(0, 0), 7);
        due(32, "bestTwo(0, 1)", x.bestTwo(0, 1), 0);
        due(32, "bestTwo(1, 1)", x.bestTwo(1, 1), -1);
        due(32, "bestTwo(0, 2)", x.bestTwo(0, 2), -1);
        due(32, "bestTwo(-1, 0)", x.bestTwo(-1, 0), -1);
        due(31, "none for a PHASE that doesn't matter", given(HOPELESS).bestOpens(2), -2);
        due(31, "for one that does", given(HOPELESS).bestOpens(0), 1);
        LatchTimes y = given("phase p 5 9;phase q 1 9;phase r 20 9;phase s 21 9;flop a p 0 0 0;flop b r 0 0 0;"
                + "path a b 30 0;path b a 10 0;");
        due(32, "bestTwo(0, 1)", y.bestTwo(0, 1), 64 * 20);
        due(32, "bestTwo(1, 0)", y.bestTwo(1, 0), 20);
        due(32, "OPENS are as they were", y.opens(0, 0) + 64 * y.opens(1, 0), 5 + 64);
        due(32, "bestTwo(0, 2)", y.bestTwo(0, 2), 0);
        y = given("phase p 5 9;phase q 1 9;phase r 20 9;phase s 21 9;flop a r 0 0 0;flop b s 0 0 0;path a b 999 0;");
        due(32, "bestTwo of two that don't matter", y.bestTwo(0, 1), -2);
    }

    private static void movesAndWidths() {
        LatchTimes x = given(ROW);
        due(35, "bestMove(1)", x.bestMove(1), -5);
        due(35, "bestMove(0)", x.bestMove(0), 8);
        due(35, "bestMove(2)", x.bestMove(2), 0);
        due(35, "bestMove(3)", x.bestMove(3), -3000);
        due(35, "bestMove(-1)", x.bestMove(-1), -3000);
        due(35, "MOST is as it was", x.path(0, 2), 20);
        x.delay(1, 11, 6);
        due(35, "the nearer one of -4, -5", x.bestMove(1), -4);
        x.delay(0, 20, 3);
        due(35, "no LEAST below 0", x.bestMove(1), -3);
        due(35, "as much as can be", given(HOPELESS).bestMove(0), 999);
        LatchTimes fixed = given("phase p 0 9;phase q 1 9;flop a p 0 0 0;flop b q 0 0 0;path a b 999 0;");
        due(35, "by none", fixed.bestMove(0), -2000);
        LatchTimes y = given(RING);
        due(36, "leastWidth(0)", y.leastWidth(0), 20);
        due(36, "leastWidth(1)", y.leastWidth(1), 16);
        due(36, "leastWidth(2)", y.leastWidth(2), -1);
        due(36, "leastWidth(-1)", y.leastWidth(-1), -1);
        y.phase(1, 32, 15);
        due(36, "another PHASE is too narrow", y.leastWidth(0), -2);
        due(36, "this one is wide enough", y.leastWidth(1), 16);
        due(36, "1 at least", given("phase p 0 9;").leastWidth(0), 1);
        due(36, "63 at most", given("period 99;phase p 0 9;latch a p 98 0 0;").leastWidth(0), -2);
        due(36, "63 at most", given("period 99;phase p 0 9;latch a p 97 0 0;").leastWidth(0), 63);
    }

    private static void flopsAndBreaks() {
        LatchTimes x = given(RING);
        due(37, "flops()", x.flops(), 0);
        due(34, "breaks()", x.breaks(), 2);
        x.period(40);
        // then it comes to a at 896 less 1280, to b at 704 less 1280
        due(37, "flops() at 40", x.flops(), 6);
        x.delay(1, 18, 0);
        // to b at -1: -64 is due
        due(37, "flops() with a SETUP that b lacks", x.flops(), 2);
        x.flop(1);
        due(34, "breaks() without a LOOP", x.breaks(), 0);
        due(37, "flops() tells latches alone", x.flops(), 0);
        LatchTimes y = given("phase p 0 1;latch a p 9 0 0;flop b p 0 0 0;");
        y.phase(0, 0, 63);
        due(37, "a latch without paths could be one", y.flops(), 1);
        y.phase(0, 0, 1);
        due(37, "not GOOD even without", y.flops(), -2);
        LatchTimes z = given("phase p 0 1;latch a p 0 0 0;latch b p 0 0 0;latch c p 0 0 0;latch d p 0 0 0;path a b 1 1;"
                + "path b a 1 1;path b c 1 1;path c b 1 1;path c d 1 1;path d c 1 1;");
        due(34, "the fewest, the least as a number", z.breaks(), 5);
        z.flop(1);
        due(34, "breaks() with b as a flop", z.breaks(), 4);
    }

    private static void nearPaths() {
        LatchTimes x = given(RING);
        dueRow(38, "near", new long[] {x.near(0), x.near(1), x.near(2), x.near(3), x.near(4), x.near(-1)},
                320, 256, 320, 448, NO, NO);
        dueRow(39, "nearest", new long[] {x.nearest(0), x.nearest(1), x.nearest(2), x.nearest(3), x.nearest(4),
            x.nearest(-1)}, 1, 0, 2, 3, -2, -1);
        x.delay(0, 0, 0);
        // b leaves at 64 then, and by the first path alone a would leave at 0
        due(38, "near of a path that is early", x.near(0), 576);
    }

    private static void events() {
        LatchTimes x = given("period 10;phase p 0 40;phase q 40 40;phase r 40 24;");
        int[][] due = {{0, 2, 0}, {0, 0, 1}, {160, 1, 0}, {400, 0, 0}, {400, 1, 1}, {400, 2, 1}};
        for (int k = 0; k < due.length; k++) {
            for (int what = 0; what < 3; what++) {
                due(40, "event(" + k + ", " + what + ")", x.event(k, what), due[k][what]);
            }
        }
        due(40, "event(6, 0)", x.event(6, 0), -1);
        due(40, "event(-1, 0)", x.event(-1, 0), -1);
        due(40, "event(0, 3)", x.event(0, 3), -1);
        due(40, "event(0, -1)", x.event(0, -1), -1);
        int[][] open = {{0, 2}, {159, 2}, {160, 1}, {399, 1}, {400, 2}, {639, 2}, {640, -1}, {-1, -1}};
        for (int[] pair : open) {
            due(41, "open(" + pair[0] + ")", x.open(pair[0]), pair[1]);
        }
    }

    private static void chances() {
        // seed 1: 1103527590, 377401575, 662824084, 1147902781; by 65536: 16838, 5758, 10113, 17515
        LatchTimes x = given("seed 1;period 10;phase c 0 1;flop f c 0 0 0;path f f 19 10;");
        // MOST by chance: 18, 18, 13, 15
        due(42, "LEAST PERIOD of one", x.chance(-1, 1, 2), 18);
        due(42, "by another seed", x.chance(662824084, 1, 2), 15);
        x.period(15);
        due(42, "GOOD of four", x.chance(1, 4, 0), 2);
        due(42, "FOREVER of four", x.chance(1, 4, 1), 0);
        due(42, "MOST is as it was", x.path(0, 2), 19);
        x.flop(0);
        due(42, "FOREVER as a latch", x.chance(1, 4, 1), 2);
        due(42, "FOREVER isn't GOOD", x.chance(1, 4, 0), 2);
        due(42, "what is told then", x.good(), 0);
        due(42, "seed -2", x.chance(-2, 1, 0), -1);
        due(42, "n 0", x.chance(0, 0, 0), -1);
        due(42, "n 41", x.chance(0, 41, 0), -1);
        due(42, "what 3", x.chance(0, 1, 3), -1);
        due(42, "what -1", x.chance(0, 1, -1), -1);
        due(42, "the greatest seed", x.chance(Integer.MAX_VALUE, 40, 0) >= 0, true);
        due(42, "none has a LEAST PERIOD", given(HOPELESS).chance(0, 3, 2), 0);
    }

    private static void undone() {
        LatchTimes x = given(RING);
        due(43, "undo() of nothing", x.undo(), -1);
        x.period(21);
        x.phase(0, 9, 9);
        x.delay(0, 5, 5);
        x.flop(0);
        x.skew(7);
        x.move(1, 1);
        due(43, "what can be undone", x.count(5), 6);
        for (int left = 5; left >= 0; left--) {
            due(43, "undo()", x.undo(), left);
        }
        due(43, "undo()", x.undo(), -1);
        due(43, "PERIOD", x.count(3), 20);
        due(43, "OPENS, WIDTH", x.opens(0, 0) + x.opens(0, 1), 32);
        due(43, "MOST, LEAST", 1000 * x.path(0, 2) + x.path(0, 3), 12004);
        due(43, "flop", x.cell(0, 4), 1);
        due(43, "SKEW", x.count(7), 1);
        due(43, "LEAVES", x.leaves(2), 320);
        for (int i = 1; i <= 25; i++) {
            x.period(i);
        }
        due(43, "20 at most", x.count(5), 20);
        for (int i = 0; i < 20; i++) {
            x.undo();
        }
        due(43, "the latest 20 are undone", x.count(3), 5);
        due(43, "undo()", x.undo(), -1);
        x.period(5);
        x.move(0, 0);
        due(43, "changes to what it is already", x.count(5), 2);
    }

    private static void images() {
        LatchTimes x = given(RING);
        due(45, "back() without an IMAGE", x.back(), -1);
        x.period(33);
        due(44, "keep()", x.keep(), 33);
        due(44, "keep() leaves what can be undone", x.count(5), 1);
        x.phase(0, 9, 9);
        x.delay(0, 5, 5);
        x.flop(0);
        x.skew(7);
        due(45, "back()", x.back(), 33);
        due(45, "nothing to undo", x.undo(), -1);
        due(45, "OPENS, WIDTH", x.opens(0, 0) + x.opens(0, 1), 32);
        due(45, "MOST, LEAST", 1000 * x.path(0, 2) + x.path(0, 3), 12004);
        due(45, "flop", x.cell(0, 4), 1);
        due(45, "SKEW", x.count(7), 1);
        x.period(34);
        due(44, "keep() in place of one ahead", x.keep(), 34);
        x.period(35);
        due(45, "undo() leaves the IMAGE", x.undo(), 1);
        x.period(36);
        due(45, "back()", x.back(), 34);
        due(45, "it stays", x.back(), 34);
    }

    private static void counts() {
        LatchTimes x = given(RING);
        x.skew(2);
        feed(x, "x");
        int[] counts = {2, 3, 4, 20, 1, 1, 20, 2, 2};
        for (int i = 0; i < counts.length; i++) {
            due(46, "count(" + i + ")", x.count(i), counts[i]);
        }
        due(46, "count(9)", x.count(9), -1);
        due(46, "count(-1)", x.count(-1), -1);
    }

    /** What was answered ahead of a change must not be answered behind it. */
    private static void answersAnew() {
        LatchTimes x = given(RING);
        x.keep();
        x.period(30);
        due(15, "leaves(2) at 30", x.leaves(2), 0);
        due(27, "ratio at 30", x.ratio(false), 20);
        x.delay(1, 19, 0);
        due(27, "ratio by a longer delay", x.ratio(false), 30);
        due(15, "leaves(2) by it", x.leaves(2), 384);
        x.undo();
        due(43, "leaves(2) behind undo()", x.leaves(2), 0);
        due(43, "ratio behind undo()", x.ratio(false), 20);
        x.delay(1, 19, 0);
        due(15, "good()", x.good(), 2);
        due(27, "ratio", x.ratio(false), 30);
        x.back();
        due(45, "leaves(2) behind back()", x.leaves(2), 320);
        due(45, "ratio behind back()", x.ratio(false), 20);
        x.flop(1);
        due(27, "ratio without a LOOP", x.ratio(false), 0);
        due(27, "ratio without a LOOP", x.ratio(true), 1);
        due(28, "loop(0) without a LOOP", x.loop(0), -2);
        due(34, "breaks() without a LOOP", x.breaks(), 0);
        due(42, "chance by the seed of the TEXT", x.chance(-1, 1, 2), x.chance(42, 1, 2));
        x.flop(1);
        due(27, "ratio", x.ratio(false), 20);
        x.flop(2);
        due(27, "ratio with b as a flop", x.ratio(false), 0);
        x.flop(2);
        due(21, "good()", x.good(), 2);
        String again = "phase p 0 9;latch a p 0 0 0;path a a 999 0;";
        feed(x, again);
        x.text(again.length());
        due(3, "ratio behind text()", x.ratio(false), 999);
        due(3, "good() behind text()", x.good(), 0);
        due(3, "the seed behind text()", x.chance(-1, 2, 2), x.chance(0, 2, 2));
        // 12345 by 65536 is 0; then 1406932606 by 65536 is 21468, modulo 1000 it is 468
        due(42, "the seed behind text()", x.chance(-1, 2, 2), 468);
        due(42, "good() behind chance()", x.good(), 0);
        LatchTimes y = given(HOPELESS);
        due(29, "no LEAST PERIOD", y.leastPeriod(), -2);
        y.delay(0, 0, 0);
        due(31, "bestOpens with nothing in the way", y.bestOpens(2), 0);
        y.undo();
        due(31, "and with it", y.bestOpens(2), -2);
    }

    /** TIMES one 64th above or below what is asked, the last wave, slow loops, the first period. */
    private static void brims() {
        LatchTimes x = given("period 65;phase p 0 1;phase q 63 63;flop a p 0 0 0;latch b q 0 0 0;path a b 64 0;");
        due(15, "LEAVES of a 64th", x.leaves(1), 1);
        due(20, "BORROWS by a 64th", x.which(0), 2);
        due(37, "can't be a flop by a 64th", x.flops(), 0);
        LatchTimes slow = given("period 1160;phase p 0 11;latch a p 0 0 99;path a a 999 0;skew 63;");
        due(26, "fails at the last wave", slow.fails(0), 200);
        slow.phase(0, 0, 12);
        due(26, "fails at none", slow.fails(0), -2);
        due(21, "but is FOREVER", slow.good(), 0);
        LatchTimes loop = given("period 1000;phase p 0 63;latch a p 0 0 2;path a a 5 0;");
        due(30, "slower by a slow loop", loop.slower(0), 998);
        loop.delay(0, 999, 0);
        due(29, "LEAST PERIOD by a slow loop", loop.leastPeriod(), 1001);
        due(35, "bestMove by a slow loop", loop.bestMove(0), 0);
        due(36, "leastWidth by a slow loop", loop.leastWidth(0), -2);
        LatchTimes one = given("phase p 0 1;phase q 32 1;flop a p 0 0 0;flop b q 0 0 0;path a b 1 0;");
        due(31, "bestOpens to a PERIOD of 1", one.bestOpens(0), 32);
        due(29, "LEAST PERIOD", one.leastPeriod(), 2);
        LatchTimes row = given("phase c 0 1;flop f c 0 0 0;flop g c 0 0 0;flop h c 0 0 0;path f g 2 2;path g h 0 0;");
        due(35, "bestMove to a PERIOD of 1", row.bestMove(1), -1);
    }

    /** As many PHASES, CELLS and paths as there can be. */
    private static void full() {
        StringBuilder t = new StringBuilder("phase p 0 9;phase q 9 9;phase r 18 9;phase s 27 9;period 400;");
        for (int i = 0; i < 10; i++) {
            t.append("latch ").append((char) ('a' + i)).append(' ').append("pqrs".charAt(i % 4)).append(" 1 1 1;");
        }
        for (int i = 0; i < 9; i++) {
            t.append("path ").append((char) ('a' + i)).append(' ').append((char) ('b' + i)).append(" 9 9;");
        }
        LatchTimes x = given(t.toString());
        due(34, "breaks() of a long row", x.breaks(), 0);
        due(27, "ratio of a long row", x.ratio(false), 0);
        for (int i = 0; i < 8; i++) {
            t.append("path ").append((char) ('a' + i)).append(' ').append((char) ('c' + i)).append(" 9 9;");
        }
        for (int i = 0; i < 7; i++) {
            t.append("path ").append((char) ('b' + i)).append(' ').append((char) ('a' + i)).append(" 9 9;");
        }
        x = given(t.toString());
        int[] counts = {4, 10, 24, 400, 0, 0, 0, 0, 10};
        for (int i = 0; i < counts.length; i++) {
            due(46, "count(" + i + ")", x.count(i), counts[i]);
        }
        due(21, "good()", x.good(), 2);
        due(34, "breaks()", x.breaks(), 1 | 4 | 16 | 64);
        due(37, "flops()", x.flops(), 1023);
        due(39, "nearest(24)", x.nearest(24), -2);
        due(40, "event(7, 0)", x.event(7, 0), 36 * 400);
        due(41, "open(0)", x.open(0), 1);
        due(28, "loop(0)", x.loop(0), 0);
        due(25, "wave(9, 200)", x.wave(9, 200), 0);
        for (int p = 0; p < 24; p++) {
            due(38, "near(" + p + ")", x.near(p), 9 * 400 - 64);
            due(39, "nearest(" + p + ")", x.nearest(p), p);
            due(30, "slower(" + p + ")", x.slower(p) > 9, true);
            due(33, "gain(" + p + ")", x.gain(p), 0);
        }
        for (int c = 0; c < 10; c++) {
            due(35, "bestMove(" + c + ")", Math.abs(x.bestMove(c)) <= 9, true);
            due(11, "move(" + c + ", 0)", x.move(c, 0), true);
        }
        due(32, "bestTwo(0, 3)", x.bestTwo(0, 3) >= 0, true);
        due(42, "chance(5, 40, 1)", x.chance(5, 40, 1), 0);
        due(42, "chance(5, 40, 2)", x.chance(5, 40, 2), x.leastPeriod());
    }

    public static void main(String[] args) {
        newObject();
        tape();
        texts();
        textKeepsOrDrops();
        names();
        changes();
        moves();
        parts();
        latest();
        forever();
        ends();
        early();
        wavesOn();
        turns();
        periods();
        openings();
        movesAndWidths();
        flopsAndBreaks();
        nearPaths();
        events();
        chances();
        undone();
        images();
        counts();
        answersAnew();
        brims();
        full();
        for (int promise = 1; promise <= 46; promise++) {
            due("The promises", "a check of promise " + promise, isChecked(promise), true);
        }
        endOfTest();
    }
}
