/**
 * The bounds of what is sought, sentence by sentence: promises 29 to 37. Answers are worked out by hand; each check is
 * named by the words that it holds the program to.
 */
public final class SearchBoundsTest extends Bench {
    /** From the flop a to the flop b by a SHIFT of 1: 64 MOST is the least PERIOD that there can be. */
    private static LatchTimes narrow(int period, int most, int least) {
        return given("period " + period + ";phase p 0 1;phase q 1 1;flop a p 0 0 0;flop b q 0 0 0;path a b " + most + " "
                + least + ";");
    }

    /** From the flop a to the flop b of the same PHASE: MOST is the least PERIOD that there can be. */
    private static LatchTimes wide(int period, int most, int least) {
        return given("period " + period + ";phase p 0 1;flop a p 0 0 0;flop b p 0 0 0;path a b " + most + " " + least + ";");
    }

    /**
     * The row a, b, c takes 1093 units and MOST by 6 and 7 64ths: with 938 these are 9998 and 10 13ths, with 939 they are
     * beyond 10003. The PHASE s and its flop d have nothing to do with it.
     */
    private static LatchTimes nearEnd(int most) {
        return given("phase p 0 1;phase q 6 63;phase r 13 1;phase s 40 1;flop a p 0 0 0;latch b q 0 0 94;flop c r 0 0 0;"
                + "flop d s 0 0 0;path a b " + most + " 0;path b c 999 0;");
    }

    // ---- Promise 29

    private static void leastPeriods() {
        String where = "LEAST PERIOD: the least 1 .. 9999 by which it is GOOD; -2: there is none";
        due(where, "without LINES", new LatchTimes().leastPeriod(), 1);
        due(where, "MOST 0", wide(100, 0, 0).leastPeriod(), 1);
        due(where, "MOST 1", wide(100, 1, 0).leastPeriod(), 1);
        due(where, "MOST 2", wide(100, 2, 0).leastPeriod(), 2);
        LatchTimes x = nearEnd(938);
        due(where, "the last one", x.leastPeriod(), 9999);
        due("PERIOD is as it was", "count(3)", x.count(3), 100);
        x.period(9999);
        due(where, "GOOD at 9999", x.good(), 2);
        x.period(9998);
        due(where, "not at 9998", x.good(), 1);
        due(where, "10004 would be", nearEnd(939).leastPeriod(), -2);
        dueRow(where, "9999 by what doesn't matter", row(x.bestOpens(3), x.bestMove(3)), 0, 0);
        dueRow(where, "10004 by what doesn't matter", row(nearEnd(939).bestOpens(3), nearEnd(939).bestMove(3)), -2, -2000);
        x.delay(0, 938, 938);
        x.delay(1, 999, 999);
        due(where, "9999 by chance", x.chance(0, 1, 2), 9999);
        x.delay(0, 939, 939);
        due(where, "10004 by chance", x.chance(0, 1, 2), 0);
        // 99 and 999 and 99 units, and SETUP, by a SHIFT of 8
        String eighth = "skew 99;phase p 0 1;phase q 8 1;flop a p 0 0 99;flop b q ";
        due(where, "1249 units by 8", given(eighth + "52 0 0;path a b 999 0;").leastPeriod(), 9992);
        due(where, "1250 units by 8: 10000 would be", given(eighth + "53 0 0;path a b 999 0;").leastPeriod(), -2);
        due(where, "a flop of SETUP 99 without paths", given("phase p 0 1;flop a p 99 0 0;").leastPeriod(), 1);
        due(where, "a latch of SETUP 99, WIDTH 1", given("phase p 0 1;latch a p 99 0 0;").leastPeriod(), 6336);
        due(where, "a latch of SETUP 1, WIDTH 63", given("phase p 0 63;latch a p 1 0 0;").leastPeriod(), 2);
        due(where, "the latch with the greatest SETUP", given("phase p 0 1;latch a p 1 0 0;latch b p 5 0 0;latch c p 2 0 0;"
                + "latch d p 7 0 0;").leastPeriod(), 7 * 64);
        // a LOOP of latches bounds it by its TURN, rounded up: 13 units by 2
        due(where, "by a LOOP", given("phase p 0 63;latch a p 0 0 0;latch b p 0 0 0;path a b 6 0;path b a 7 0;").leastPeriod(), 7);
    }

    /** As many CELLS as there can be, one behind another: 9 or 10 paths bound the PERIOD together. */
    private static void longRows() {
        String where = "LEAST PERIOD of a row, a LOOP of ten CELLS";
        StringBuilder t = new StringBuilder(latches(10));
        for (int i = 0; i < 9; i++) {
            t.append("path ").append((char) ('a' + i)).append(' ').append((char) ('a' + i + 1)).append(" 20 0;");
        }
        // 180 units by 9 times 64 and 63
        LatchTimes x = given(t.toString());
        due(where, "to a latch", x.leastPeriod(), 19);
        x.flop(9);
        due(where, "to a flop", x.leastPeriod(), 20);
        x.delay(4, 21, 0);
        due(where, "to a flop, a unit more", x.leastPeriod(), 21);
        LatchTimes y = given(t + "path j a 20 0;");
        due(where, "round about", y.leastPeriod(), 20);
        y.delay(9, 21, 0);
        due(where, "round about, a unit more", y.leastPeriod(), 21);
        y.period(20);
        dueRow(where, "what it may be at 20", row(y.good(), y.slower(9), y.slower(0)), 0, 20, 19);
        y.delay(9, 999, 0);
        // 999 units by 64 and 63; without them 180 by 9 times 64 and 63
        due(where, "round about, the last path bounds it alone", y.leastPeriod(), 504);
        due(where, "gain", y.gain(9), 504 - 19);
    }

    // ---- Promise 30

    private static void slower() {
        String where = "The greatest MOST, no less than LEAST, 999 at most; -2: by none";
        due(where, "998 at a PERIOD of 998", wide(998, 5, 0).slower(0), 998);
        due(where, "999 at a PERIOD of 999", wide(999, 5, 0).slower(0), 999);
        due(where, "999 at a PERIOD of 9999", wide(9999, 5, 0).slower(0), 999);
        due(where, "LEAST is 999", wide(999, 999, 999).slower(0), 999);
        due(where, "LEAST is 999, too much", wide(998, 999, 999).slower(0), -2);
        due(where, "no more than it is", narrow(128, 2, 2).slower(0), 2);
        due(where, "less than it is", narrow(128, 5, 1).slower(0), 2);
        due(where, "no less than LEAST", narrow(128, 5, 2).slower(0), 2);
        due(where, "LEAST is too much", narrow(128, 5, 3).slower(0), -2);
        due(where, "a 64th is missing", narrow(127, 5, 0).slower(0), 1);
        due(where, "0 is the greatest", narrow(63, 5, 0).slower(0), 0);
        due(where, "0 is the greatest of one", narrow(1, 0, 0).slower(0), 0);
        LatchTimes x = given("phase p 0 63;latch a p 0 0 1;path a a 200 0;");
        due(where, "FOREVER as it is", x.good(), 0);
        due(where, "of a LOOP", x.slower(0), 99);
        due("all else as it is", "MOST", x.path(0, 2), 200);
        x.delay(0, 200, 100);
        due(where, "LEAST is FOREVER, too", x.slower(0), -2);
        LatchTimes y = given("phase p 0 1;flop a p 0 0 0;flop b p 0 0 0;path a b 5 0;path b a 101 0;");
        due(where, "another path isn't in time", y.slower(0), -2);
        due(where, "this one isn't", y.slower(1), 100);
        dueRow("NONE: no such path", "slower", row(y.slower(2), y.slower(-1)), -1, -1);
    }

    // ---- Promises 31, 32

    private static void bestOpens() {
        String where = "OPENS 0 .. 63 of a PHASE by which LEAST PERIOD is least, the first";
        // q is best where p opens: SHIFT is 64 both ways
        for (int opens : new int[] {0, 1, 31, 32, 62, 63}) {
            LatchTimes x = given("phase p " + opens + " 1;phase q 7 1;flop a p 0 0 0;flop b q 0 0 0;path a b 100 0;path b a 100 0;");
            due(where, "the only one, " + opens, x.bestOpens(1), opens);
            due(where, "the other PHASE", x.bestOpens(0), 7);
            due("all else as it is", "OPENS", 64 * x.opens(0, 0) + x.opens(1, 0), 64 * opens + 7);
        }
        // a PERIOD of 2 is needed, and enough from a SHIFT of 32 on: behind 63 that is at 31
        LatchTimes x = given("phase p 63 1;phase q 7 1;flop a p 0 0 0;flop b q 0 0 0;path a b 1 0;path a a 2 0;");
        due(where, "the first of 33", x.bestOpens(1), 31);
        due(where, "LEAST PERIOD as it is", x.leastPeriod(), 8);
        // a PERIOD of 1 needs a SHIFT of 64, one of 2 half of it
        LatchTimes one = given("phase p 40 1;phase q 7 1;flop a p 0 0 0;flop b q 0 0 0;path a b 1 0;");
        dueRow(where, "1, not 2", row(one.bestOpens(1), one.bestOpens(0), one.bestTwo(0, 1)), 40, 7, 0);
        LatchTimes free = given("phase p 9 1;phase q 60 1;phase r 4 1;phase s 5 1;");
        for (int phase = 0; phase < 4; phase++) {
            due(where, "the first of all 64", free.bestOpens(phase), 0);
        }
        where = "-2: by none there is one";
        LatchTimes none = narrow(100, 157, 157);
        none.phase(1, 1, 63);
        due(where, "a PHASE that helps", none.bestOpens(1), 0);
        LatchTimes fixed = given("phase p 0 1;phase q 1 1;phase r 2 1;phase s 3 1;flop a p 0 0 0;flop b q 0 0 0;path a b 157 0;");
        dueRow(where, "PHASES that don't", row(fixed.bestOpens(2), fixed.bestOpens(3), fixed.bestTwo(2, 3), fixed.bestTwo(3, 2)),
                -2, -2, -2, -2);
        fixed.delay(0, 156, 0);
        dueRow(where, "there is one, 9984", row(fixed.bestOpens(2), fixed.bestOpens(3), fixed.bestTwo(2, 3), fixed.leastPeriod()),
                0, 0, 0, 9984);
        dueRow("NONE: no such PHASE", "bestOpens", row(fixed.bestOpens(4), fixed.bestOpens(-1)), -1, -1);
    }

    private static void bestTwo() {
        String where = "64 times the first one's, and the other one's; the first by the first one's, then the other one's";
        // three flops round about, each of a PHASE: all are best where the third one opens
        for (int opens : new int[] {0, 1, 63}) {
            LatchTimes x = given("phase p 4 1;phase q 9 1;phase r " + opens + " 1;flop a p 0 0 0;flop b q 0 0 0;flop c r 0 0 0;"
                    + "path a b 100 0;path b a 100 0;path b c 100 0;path c b 100 0;");
            due(where, "bestTwo(0, 1)", x.bestTwo(0, 1), 65 * opens);
            due(where, "bestTwo(1, 0)", x.bestTwo(1, 0), 65 * opens);
            due("all else as it is", "OPENS", x.opens(0, 0) + 64 * x.opens(1, 0), 4 + 64 * 9);
        }
        // q has a path from p, which has a fixed one with r: r's OPENS is free
        LatchTimes x = given("phase p 63 1;phase q 7 1;phase r 8 1;flop a p 0 0 0;flop b q 0 0 0;path a b 1 0;path a a 2 0;");
        due(where, "the other one is free", x.bestTwo(1, 2), 64 * 31);
        due(where, "the first one is free", x.bestTwo(2, 1), 31);
        // p at 0 would do with q at 32 .. 63 and at 0, where SHIFT is 64
        due(where, "both matter", x.bestTwo(0, 1), 0);
        x.delay(0, 2, 0);
        // a PERIOD of 2 needs a SHIFT of 64 then
        dueRow(where, "a SHIFT of 64", row(x.bestTwo(1, 2), x.bestTwo(2, 1), x.bestTwo(0, 1)), 64 * 63, 63, 0);
        where = "two unlike PHASES; NONE: no such ones";
        int[][] refused = {{0, 0}, {2, 2}, {3, 3}, {-1, -1}, {0, 3}, {3, 0}, {0, -1}, {-1, 0}, {LEAST_INT, 0}, {0, GREATEST_INT}};
        for (int[] r : refused) {
            due(where, "bestTwo(" + r[0] + ", " + r[1] + ")", x.bestTwo(r[0], r[1]), -1);
        }
        LatchTimes two = given("phase p 63 1;phase q 62 1;");
        dueRow(where, "without CELLS", row(two.bestTwo(0, 1), two.bestTwo(1, 0), two.bestTwo(1, 2)), 0, 0, -1);
        due(where, "with one PHASE", given("phase p 63 1;").bestTwo(0, 1), -1);
    }

    // ---- Promise 33

    private static void gains() {
        String where = "By how much LEAST PERIOD would be less; -2: there is none as it is";
        due(where, "all of it but 1", wide(100, 999, 0).gain(0), 998);
        due(where, "none where MOST is LEAST", wide(100, 999, 999).gain(0), 0);
        due(where, "none at 1", wide(100, 1, 0).gain(0), 0);
        due(where, "from 9984 on", narrow(100, 156, 0).gain(0), 9983);
        due(where, "none as it is, though there would be one", narrow(100, 157, 0).gain(0), -2);
        LatchTimes x = nearEnd(938);
        // the row b, c alone: 1093 units by 7 are 9993 and a seventh
        due(where, "from 9999 to 9994", x.gain(0), 5);
        due("MOST is as it was", "path(0, 2)", x.path(0, 2), 938);
        due(where, "none at 10004", nearEnd(939).gain(0), -2);
        dueRow("NONE: no such path", "gain", row(x.gain(2), x.gain(-1), nearEnd(939).gain(2)), -1, -1, -1);
    }

    // ---- Promise 34

    private static String latches(int count) {
        StringBuilder t = new StringBuilder("phase p 0 63;");
        for (int i = 0; i < count; i++) {
            t.append("latch ").append((char) ('a' + i)).append(" p 0 0 0;");
        }
        return t.toString();
    }

    private static void breaks() {
        String where = "the fewest, of several the least as a number";
        StringBuilder each = new StringBuilder(latches(10));
        StringBuilder round = new StringBuilder(latches(10));
        for (int i = 0; i < 10; i++) {
            char c = (char) ('a' + i);
            each.append("path ").append(c).append(' ').append(c).append(" 1 1;");
            round.append("path ").append(c).append(' ').append((char) ('a' + (i + 1) % 10)).append(" 1 1;");
        }
        LatchTimes x = given(each.toString());
        due(where, "all ten", x.breaks(), 1023);
        x.flop(0);
        x.flop(9);
        due("CELLS that are latches", "eight of them", x.breaks(), 1023 - 1 - 512);
        LatchTimes y = given(round.toString());
        due(where, "one of ten", y.breaks(), 1);
        y.flop(9);
        due("would leave no LOOP", "none is needed", y.breaks(), 0);
        due("would leave no LOOP", "ten in a row", given(round.substring(0, round.lastIndexOf("path"))).breaks(), 0);
        due("would leave no LOOP", "without CELLS", new LatchTimes().breaks(), 0);
        // two rings that share the CELL 3: it alone, though as a number 1 and 2 are less
        LatchTimes z = given(latches(5) + "path a d 1 1;path d a 1 1;path b d 1 1;path d b 1 1;path d e 1 1;path e d 1 1;");
        due("the fewest", "the one that all share", z.breaks(), 8);
        // two rings of two: one of each, the least ones
        LatchTimes w = given(latches(4) + "path a d 1 1;path d a 1 1;path b c 1 1;path c b 1 1;");
        due(where, "a and b", w.breaks(), 3);
        due("all as it is", "latches", w.count(8), 4);
        // the last CELL alone
        LatchTimes v = given(latches(10) + "path j j 1 1;path a b 1 1;");
        due(where, "the last one", v.breaks(), 512);
    }

    // ---- Promise 35

    private static void bestMoves() {
        String where = "The n -999 .. 999 by which move of a CELL could be and LEAST PERIOD would be least";
        LatchTimes x = wide(100, 999, 999);
        due(where, "as far as can be from a", x.bestMove(0), 998);
        due(where, "as far as can be to b", x.bestMove(1), -998);
        LatchTimes far = narrow(100, 999, 999);
        // 64 MOST is LEAST PERIOD, at 0 it is 1
        due(where, "999", far.bestMove(0), 999);
        due(where, "-999", far.bestMove(1), -999);
        dueRow("all as it is", "MOST, LEAST", row(far.path(0, 2), far.path(0, 3)), 999, 999);
        far.delay(0, 999, 998);
        due("no LEAST below 0", "998", far.bestMove(0), 998);
        due("no LEAST below 0", "-998", far.bestMove(1), -998);
        where = "-2000: by none there is one; -3000: no such CELL";
        LatchTimes x157 = narrow(100, 157, 0);
        dueRow(where, "LEAST is 0, MOST is too much", row(x157.bestMove(0), x157.bestMove(1), x157.bestMove(2), x157.bestMove(-1)),
                -2000, -2000, -3000, -3000);
        dueRow(where, "no such CELL, far away", row(x157.bestMove(LEAST_INT), x157.bestMove(GREATEST_INT), x157.bestMove(10)),
                -3000, -3000, -3000);
        x157.delay(0, 157, 1);
        dueRow(where, "one unit is enough", row(x157.bestMove(0), x157.bestMove(1)), 1, -1);
        // the row d, e, f, g takes 2968 units by 19 64ths, 9997 and a half: 9998; a, b, c as in nearEnd
        LatchTimes last = given("phase p 0 1;phase q 6 63;phase r 13 63;phase s 19 1;flop a p 0 0 0;latch b q 0 0 94;flop c r 0 0 0;"
                + "flop d p 0 0 0;latch e q 0 0 94;latch f r 0 0 0;flop g s 0 0 0;path a b 938 9;path b c 999 9;path d e 938 9;"
                + "path e f 999 9;path f g 937 9;");
        dueRow("LEAST PERIOD would be least", "9998 by 1, not 9999 by 0", row(last.leastPeriod(), last.bestMove(0)), 9999, 1);
        last.move(0, 1);
        dueRow("LEAST PERIOD would be least", "9998 by 0", row(last.leastPeriod(), last.bestMove(0)), 9998, 0);
        where = "of several that nearest to 0";
        due(where, "a CELL without paths", given("phase p 0 1;flop a p 0 0 0;").bestMove(0), 0);
        due(where, "a CELL with a path to itself", given("phase p 0 1;flop a p 0 0 0;path a a 9 9;").bestMove(0), 0);
        LatchTimes row = given("phase c 0 1;flop f c 0 0 0;flop g c 0 0 0;flop h c 0 0 0;path f g 20 20;path g h 10 10;");
        due(where, "in the middle", row.bestMove(1), -5);
        row.delay(1, 9, 9);
        due(where, "-5 or -6: LEAST PERIOD is 15", row.bestMove(1), -5);
        row.delay(0, 9, 9);
        row.delay(1, 20, 20);
        due(where, "5 or 6: LEAST PERIOD is 15", row.bestMove(1), 5);
        row.delay(1, 10, 10);
        due(where, "0 or 1: LEAST PERIOD is 10", row.bestMove(1), 0);
        row.delay(0, 990, 990);
        row.delay(1, 996, 0);
        due("no LEAST below 0", "3 would be best", row.bestMove(1), 0);
        row.delay(0, 999, 990);
        row.delay(1, 900, 0);
        due("LEAST PERIOD 950 by half", "-49 or -50", row.bestMove(1), -49);
        row.delay(1, 996, 0);
        due("LEAST PERIOD 998", "-1 or -2", row.bestMove(1), -1);
        row.delay(0, 999, 0);
        due("no LEAST below 0", "it can't be moved", row.bestMove(1), 0);
        // by a SHIFT of 1 each unit of the second path is 64: the first one should take 83 or so, but has no room
        LatchTimes up = given("phase p 0 1;phase q 1 1;flop a p 0 0 0;flop b p 0 0 0;flop c q 0 0 0;path a b 997 0;path b c 100 100;");
        due("no MOST above 999", "2", up.bestMove(1), 2);
        LatchTimes down = given("phase p 0 1;phase q 1 1;flop a p 0 0 0;flop b q 0 0 0;flop c q 0 0 0;path a b 100 100;path b c 998 0;");
        due("no MOST above 999", "-1", down.bestMove(1), -1);
    }

    // ---- Promise 36

    private static void leastWidths() {
        String where = "The least WIDTH 1 .. 63 of a PHASE by which it is GOOD; -2: by none";
        // SETUP times 64 by a PERIOD of 64: WIDTH is SETUP
        for (int setup : new int[] {0, 1, 2, 62, 63, 64, 99}) {
            LatchTimes x = given("period 64;phase p 0 7;latch a p " + setup + " 0 0;");
            due(where, "SETUP " + setup, x.leastWidth(0), setup > 63 ? -2 : Math.max(setup, 1));
            due("all else as it is", "WIDTH", x.opens(0, 1), 7);
            x.flop(0);
            due(where, "a flop needs none", x.leastWidth(0), 1);
        }
        due(where, "a 64th more", given("period 63;phase p 0 7;latch a p 1 0 0;").leastWidth(0), 2);
        due(where, "a 64th less", given("period 65;phase p 0 7;latch a p 1 0 0;").leastWidth(0), 1);
        LatchTimes x = given("period 64;phase p 0 1;phase q 0 1;phase r 0 1;phase s 0 1;latch a q 2 0 0;latch b q 5 0 0;");
        dueRow(where, "of those that don't help", row(x.leastWidth(0), x.leastWidth(2), x.leastWidth(3)), -2, -2, -2);
        due(where, "of that which does, by all its latches", x.leastWidth(1), 5);
        x.phase(1, 0, 5);
        dueRow(where, "of all", row(x.leastWidth(0), x.leastWidth(1), x.leastWidth(2), x.leastWidth(3)), 1, 5, 1, 1);
        dueRow("NONE: no such PHASE", "leastWidth", row(x.leastWidth(4), x.leastWidth(-1), new LatchTimes().leastWidth(0)),
                -1, -1, -1);
        // b borrows 63 units of 64: with SETUP 1 a WIDTH of 64 would be needed
        LatchTimes y = given("period 64;phase p 0 1;flop a p 0 0 0;latch b p 0 0 0;path a b 127 0;");
        due(where, "by what it borrows", y.leastWidth(0), 63);
        y.delay(0, 128, 0);
        due(where, "one unit more", y.leastWidth(0), -2);
        y.delay(0, 64, 0);
        due(where, "it borrows nothing", y.leastWidth(0), 1);
        // at a PERIOD of 1 b leaves at 64, less SHIFT: as many 64ths is its WIDTH
        for (int shift : new int[] {1, 2, 24, 62, 63}) {
            LatchTimes one = given("period 1;phase p 0 1;phase q " + shift + " 1;flop a p 0 0 0;latch b q 0 0 0;path a b 1 0;");
            due(where, "at a PERIOD of 1, SHIFT " + shift, one.leastWidth(1), 64 - shift);
            one.phase(1, 0, 1);
            due(where, "at a PERIOD of 1, SHIFT 64", one.leastWidth(1), 1);
            one.delay(0, 2, 0);
            due(where, "at a PERIOD of 1, 64 would be needed", one.leastWidth(1), -2);
        }
        LatchTimes z = given("period 9;phase p 0 63;latch a p 0 0 0;path a a 10 0;");
        due(where, "FOREVER", z.leastWidth(0), -2);
        LatchTimes w = given("period 9;phase p 0 63;flop a p 0 0 0;path a a 10 0;");
        due(where, "a flop isn't in time", w.leastWidth(0), -2);
    }

    // ---- Promise 37

    private static void flops() {
        String where = "latches that could be flops together so that it is GOOD: the most; -2: it isn't GOOD even without";
        due(where, "all ten", given(latches(10)).flops(), 1023);
        due(where, "without CELLS", new LatchTimes().flops(), 0);
        due("latches", "flops alone", given("phase p 0 1;flop a p 0 0 0;flop b p 0 0 0;").flops(), 0);
        // it comes to b at 64 (MOST less 10): as a flop b needs -64 SETUP
        for (int most = 7; most <= 11; most++) {
            LatchTimes x = given("period 10;phase p 0 63;flop a p 0 0 0;latch b p 2 0 0;path a b " + most + " 0;");
            due(where, "MOST " + most, x.flops(), most <= 8 ? 2 : 0);
            due("all others as they are", "flops", x.count(4), 1);
        }
        // a 64th too late: 64 less 63
        LatchTimes late = given("period 63;phase p 0 1;phase q 1 63;flop a p 0 0 0;latch b q 0 0 0;path a b 1 0;");
        due(where, "a 64th too late", late.flops(), 0);
        late.period(64);
        due(where, "in time", late.flops(), 2);
        LatchTimes x = given("period 10;phase p 0 63;latch a p 0 0 0;path a a 11 0;");
        due(where, "FOREVER", x.flops(), -2);
        x.delay(0, 10, 0);
        due(where, "GOOD", x.flops(), 1);
        LatchTimes y = given("period 10;phase p 0 6;latch a p 1 0 0;latch b p 0 0 0;");
        due(where, "not MET by a 64th or more", y.flops(), -2);
        y.phase(0, 0, 7);
        due(where, "MET", y.flops(), 3);
    }

    public static void main(String[] args) {
        leastPeriods();
        longRows();
        slower();
        bestOpens();
        bestTwo();
        gains();
        breaks();
        bestMoves();
        leastWidths();
        flops();
        endOfTest();
    }
}
