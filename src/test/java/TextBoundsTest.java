/**
 * The bounds of a TEXT and of the TAPE, sentence by sentence: part 1 of the document's terms, promises 1 to 5. Each
 * check is named by the words that it holds the program to.
 */
public final class TextBoundsTest extends Bench {
    private static final String[] LANGUAGE = {"period", "phase", "latch", "flop", "path", "skew", "seed"};

    /** One LINE of each kind, told one behind another; each token by itself. */
    private static final String[] LINES = {"period 5 ;", "phase p 0 1 ;", "latch a p 1 2 3 ;", "flop b p 1 2 3 ;",
        "path a b 5 4 ;", "skew 9 ;", "seed 77 ;"};

    private static LatchTimes reads(String where, String text, int lines) {
        LatchTimes x = new LatchTimes();
        feed(x, text);
        due(where, "text of \"" + text + "\"", x.text(text.length()), lines);
        due(where, "FAULT of \"" + text + "\"", x.fault(0), 0);
        due(where, "its place", x.fault(1), -1);
        return x;
    }

    private static void faults(String where, String text, int code, int place) {
        LatchTimes x = given("period 7;phase p 3 4;");
        feed(x, text);
        due(where, "text of \"" + text + "\"", x.text(text.length()), -1);
        due(where, "FAULT of \"" + text + "\"", x.fault(0), code);
        due(where, "place in \"" + text + "\"", x.fault(1), place);
        due(where, "PERIOD, OPENS behind it", 100 * x.count(3) + x.opens(0, 0), 703);
    }

    private static boolean isBlank(int sign) {
        return sign == 10 || sign == 32;
    }

    private static boolean isDigit(int sign) {
        return sign >= '0' && sign <= '9';
    }

    private static boolean isLetter(int sign) {
        return sign >= 'a' && sign <= 'z';
    }

    // ---- Promise 1

    private static void newObject() {
        String where = "All as it is without LINES; an empty TAPE";
        LatchTimes fresh = new LatchTimes();
        LatchTimes without = new LatchTimes();
        without.text(0);
        int[] counts = {0, 0, 0, 100, 0, 0, 0, 0, 0};
        for (int what = 0; what <= 8; what++) {
            due(where, "count(" + what + ") of a new object", fresh.count(what), counts[what]);
            due(where, "count(" + what + ") behind text(0)", without.count(what), counts[what]);
        }
        for (LatchTimes x : new LatchTimes[] {fresh, without}) {
            dueRow(where, "no CELLS, no paths, no PHASES", row(x.leaves(0), x.comes(0), x.room(0), x.from(0), x.chain(0, 0),
                    x.gap(0), x.pad(0), x.pads(), x.wave(0, 0), x.fails(0), x.near(0), x.nearest(0), x.path(0, 0),
                    x.opens(0, 0), x.named(0, 0), x.named(1, 0)),
                    -1, NO, NO, -1, -1, NO, -1, 0, NO, -1, NO, -2, -1, -1, -1, -1);
            dueRow(where, "nothing that fails", row(x.good(), x.which(0), x.which(1), x.ratio(false), x.ratio(true),
                    x.loop(0), x.leastPeriod(), x.breaks(), x.flops(), x.event(0, 0), x.open(0), x.open(6399), x.open(6400)),
                    2, 0, 0, 0, 1, -2, 1, 0, 0, -1, 0, 0, -1);
            dueRow(where, "no searches", row(x.slower(0), x.bestOpens(0), x.bestTwo(0, 1), x.gain(0), x.bestMove(0),
                    x.leastWidth(0), x.undo(), x.back()), -1, -1, -1, -1, -3000, -1, -1, -1);
            dueRow(where, "chances without paths", row(x.chance(-1, 40, 0), x.chance(-1, 40, 1), x.chance(-1, 40, 2)),
                    40, 0, 1);
        }
    }

    // ---- Promise 2

    private static void fullTape() {
        String where = "NONE, and none come, if it would have more than 700";
        LatchTimes x = new LatchTimes();
        due(where, "bytes of an empty TAPE", x.count(6), 0);
        for (int n = 20; n <= 680; n += 20) {
            due(where, "feed up to " + n, x.feed(0x20202020, 0x20202020, 0x20202020, 0x20202020, 0x20202020), n);
        }
        // "      period 5;    ;": the last byte alone is a FAULT
        due(where, "feed up to 700", x.feed(0x20202020, 0x20207065, 0x72696f64, 0x20353b20, 0x2020203b), 700);
        due(where, "feed beyond 700", x.feed(0x3f3f3f3f, 0x3f3f3f3f, 0x3f3f3f3f, 0x3f3f3f3f, 0x3f3f3f3f), -1);
        due(where, "feed beyond 700 again", x.feed(0, 0, 0, 0, 0), -1);
        due(where, "bytes of a full TAPE", x.count(6), 700);
        due(where, "text(701)", x.text(701), -2);
        due(where, "the last byte is what it was", x.text(700), -1);
        due(where, "its place", x.fault(1), 699);
        due(where, "bytes behind the text", x.count(6), 0);
        for (int n = 20; n <= 700; n += 20) {
            due(where, "feed once more up to " + n, x.feed(0x20202020, 0x20202020, 0x20202020, 0x20202020, 0x20202020), n);
        }
        due(where, "feed beyond 700 then", x.feed(0, 0, 0, 0, 0), -1);
        due(where, "a TEXT of 700 blanks", x.text(700), 0);
    }

    private static void bytesOfFeed() {
        String where = "Twenty bytes come behind the TAPE, four of each number, the highest first";
        for (int place = 0; place < 20; place++) {
            int[] n = {0x20202020, 0x20202020, 0x20202020, 0x20202020, 0x20202020};
            int shift = 24 - place % 4 * 8;
            n[place / 4] = n[place / 4] & ~(255 << shift) | 0xff << shift;
            LatchTimes x = new LatchTimes();
            x.feed(0x20202020, 0x20202020, 0x20202020, 0x20202020, 0x20202020);
            due(where, "feed", x.feed(n[0], n[1], n[2], n[3], n[4]), 40);
            due(where, "text with a byte 255", x.text(40), -1);
            due(where, "where that byte stands", x.fault(1), 20 + place);
        }
        LatchTimes x = new LatchTimes();
        x.feed(LEAST_INT, GREATEST_INT, -1, 0, 1);
        due(where, "a byte of 128, the first one", x.text(20), -1);
        due(where, "its place", x.fault(1), 0);
    }

    // ---- Promise 3

    private static void lengthsOfText() {
        String where = "-2, and the TAPE stays: there are not so many, n is below 0";
        for (int n : new int[] {-1, -2, LEAST_INT, 21, 22, 700, GREATEST_INT}) {
            LatchTimes x = given(RING);
            feed(x, "period 5;skew 3;    ");
            due(where, "text(" + n + ")", x.text(n), -2);
            due(where, "bytes behind it", x.count(6), 20);
            due(where, "PERIOD behind it", x.count(3), 20);
            due(where, "the TAPE is what it was", x.text(20), 2);
            due(where, "PERIOD of it", x.count(3), 5);
            due(where, "SKEW of it", x.count(7), 3);
        }
        due(where, "text(1) of an empty TAPE", new LatchTimes().text(1), -2);
        due(where, "text(-1) of an empty TAPE", new LatchTimes().text(-1), -2);
        due(where, "text(0) of an empty TAPE", new LatchTimes().text(0), 0);
    }

    private static void firstBytes() {
        String where = "The TAPE's first n bytes (it is empty then) are the TEXT";
        for (int n = 0; n <= 20; n++) {
            LatchTimes x = given(RING);
            feed(x, "period 57;seed 7;  ?");
            int lines = n == 0 ? 0 : n == 10 ? 1 : n >= 17 && n <= 19 ? 2 : -1;
            due(where, "text(" + n + ")", x.text(n), lines);
            due(where, "TAPE behind text(" + n + ")", x.count(6), 0);
            due(where, "CELLS behind text(" + n + ")", x.count(1), lines == -1 ? 3 : 0);
            due(where, "PERIOD behind text(" + n + ")", x.count(3), lines == -1 ? 20 : lines == 0 ? 100 : 57);
            // a word that is cut off is none of the language; behind a whole one, or a number, more must come
            int place = lines != -1 ? -1 : n < 6 ? 0 : n > 10 && n < 14 ? 10 : n == 20 ? 19 : n;
            due(where, "place behind text(" + n + ")", x.fault(1), place);
            due(where, "feed behind text(" + n + ")", x.feed(0, 0, 0, 0, 0), 20);
        }
    }

    private static void longestText() {
        StringBuilder t = new StringBuilder("period 9999;skew 99;seed 99999;phase p 0 1;phase q 9 1;phase r 8 1;phase s 7 1;");
        for (int c = 0; c < 10; c++) {
            t.append(c % 2 == 0 ? "flop " : "latch ").append((char) ('a' + c)).append(" s 0 0 0;");
        }
        for (int p = 0; p < 24; p++) {
            t.append("path ").append((char) ('a' + p % 10)).append(' ').append((char) ('a' + p / 10)).append(" 9 9;");
        }
        while (t.length() < 700) {
            t.append(t.length() % 2 == 0 ? ' ' : '\n');
        }
        LatchTimes x = reads("how many LINES", t.toString(), 3 + 4 + 10 + 24);
        int[] counts = {4, 10, 24, 9999, 5, 0, 0, 99, 5};
        for (int what = 0; what <= 8; what++) {
            due("a TEXT of 700 bytes, full", "count(" + what + ")", x.count(what), counts[what]);
        }
        t.setCharAt(699, '?');
        faults("a TOKEN that is none", t.toString(), 1, 699);
    }

    private static void whatATextTakesAway() {
        String where = "are the TEXT (no IMAGE, nothing to undo)";
        LatchTimes x = given(RING);
        x.keep();
        x.period(30);
        x.skew(9);
        due(where, "text(0)", x.text(0), 0);
        due(where, "what can be undone", x.count(5), 0);
        due(where, "undo()", x.undo(), -1);
        due(where, "back()", x.back(), -1);
        due(where, "PERIOD", x.count(3), 100);
        due(where, "SKEW", x.count(7), 0);
        where = "All as it is without LINES, but what the TEXT tells";
        String full = "period 9;skew 8;seed 7;phase p 6 5;latch a p 4 3 2;path a a 99 0;";
        LatchTimes again = given(full);
        dueRow(where, "answers of the first TEXT", row(again.good(), again.ratio(false), again.chance(-1, 2, 2)),
                0, 109, given(full).chance(7, 2, 2));
        feed(again, "phase q 0 1;latch b q 0 0 0;");
        due(where, "text", again.text(28), 2);
        dueRow(where, "counts", row(again.count(0), again.count(1), again.count(2), again.count(3), again.count(4),
                again.count(7), again.count(8)), 1, 1, 0, 100, 0, 0, 1);
        dueRow(where, "names", row(again.named(0, letters("p")), again.named(1, letters("a"))), -1, -1);
        dueRow(where, "answers", row(again.good(), again.ratio(false), again.ratio(true), again.loop(0), again.leaves(0),
                again.cell(0, 5), again.path(0, 0)), 2, 0, 1, -2, 0, 0, -1);
        feed(again, "phase p 0 1;flop a p 0 0 0;path a a 999 0;");
        due(where, "text", again.text(42), 3);
        // without a seed of its own: 12345, then 1406932606 by 65536, modulo 1000
        due(where, "the seed", again.chance(-1, 2, 2), 468);
        where = "NONE with a FAULT, all else stays";
        x = given(RING);
        x.skew(8);
        x.keep();
        x.period(30);
        x.flop(2);
        feed(x, "phase z 1 1;latch a z 1 1 1;path a a 1 1;period 0;");
        due(where, "text with a FAULT", x.text(50), -1);
        dueRow(where, "counts", row(x.count(0), x.count(1), x.count(2), x.count(3), x.count(4), x.count(5), x.count(7)),
                2, 3, 4, 30, 2, 3, 8);
        dueRow(where, "names", row(x.named(0, letters("z")), x.named(0, letters("q")), x.named(1, letters("a"))), -1, 1, 1);
        due(where, "the seed", x.chance(-1, 5, 2), x.chance(42, 5, 2));
        due(where, "undo()", x.undo(), 2);
        due(where, "flops", x.count(4), 1);
        due(where, "back()", x.back(), 20);
        due(where, "SKEW as in the IMAGE", x.count(7), 8);
    }

    // ---- Promise 4

    private static void faultAsked() {
        String where = "Of the latest text() that was not -2";
        LatchTimes x = new LatchTimes();
        dueRow(where, "fault without any text", row(x.fault(0), x.fault(1)), 0, -1);
        x.text(1);
        dueRow(where, "fault behind -2 alone", row(x.fault(0), x.fault(1)), 0, -1);
        feed(x, "skew 100;");
        x.text(9);
        dueRow(where, "fault", row(x.fault(0), x.fault(1)), 2, 5);
        x.text(-1);
        x.text(1);
        dueRow(where, "fault behind -2", row(x.fault(0), x.fault(1)), 2, 5);
        feed(x, "?");
        x.text(1);
        dueRow(where, "fault at the first place", row(x.fault(0), x.fault(1)), 1, 0);
        x.text(0);
        dueRow(where, "fault behind one without", row(x.fault(0), x.fault(1)), 0, -1);
        for (int what : new int[] {-1, 2, 3, LEAST_INT, GREATEST_INT}) {
            due("NONE for another what", "fault(" + what + ")", x.fault(what), -1);
        }
    }

    // ---- Promise 5

    private static void namesAsked() {
        String where = "by its letters, 5 bits each (a is 1; the first one highest of six, 0 behind the last one)";
        LatchTimes x = given("phase a 0 1;phase zzzzzz 0 1;phase ab 0 1;phase yz 0 1;latch z a 0 0 0;flop abcdef a 0 0 0;"
                + "flop abcde a 0 0 0;flop b a 0 0 0;flop c a 0 0 0;flop d a 0 0 0;flop e a 0 0 0;flop f a 0 0 0;"
                + "flop g a 0 0 0;flop aaaaaa a 0 0 0;");
        due(where, "a", x.named(0, 1 << 25), 0);
        due(where, "zzzzzz", x.named(0, 26 << 25 | 26 << 20 | 26 << 15 | 26 << 10 | 26 << 5 | 26), 1);
        due(where, "ab", x.named(0, 1 << 25 | 2 << 20), 2);
        due(where, "the last PHASE", x.named(0, 25 << 25 | 26 << 20), 3);
        due(where, "the first CELL", x.named(1, 26 << 25), 0);
        due(where, "abcdef", x.named(1, 1 << 25 | 2 << 20 | 3 << 15 | 4 << 10 | 5 << 5 | 6), 1);
        due(where, "abcde", x.named(1, 1 << 25 | 2 << 20 | 3 << 15 | 4 << 10 | 5 << 5), 2);
        due(where, "the last CELL", x.named(1, 1 << 25 | 1 << 20 | 1 << 15 | 1 << 10 | 1 << 5 | 1), 9);
        where = "NONE: there is none such, for another kind";
        due(where, "abcd", x.named(1, letters("abcd")), -1);
        due(where, "a CELL that is a PHASE", x.named(1, letters("ab")), -1);
        due(where, "a PHASE that is a CELL", x.named(0, letters("abcde")), -1);
        for (int letters : new int[] {0, 1, -1, 1 << 20, 1 << 30 | 1 << 25, 1 << 31 | 1 << 25, LEAST_INT, GREATEST_INT}) {
            due(where, "PHASE " + letters, x.named(0, letters), -1);
            due(where, "CELL " + letters, x.named(1, letters), -1);
        }
        for (int kind : new int[] {-1, 2, LEAST_INT, GREATEST_INT}) {
            due(where, "kind " + kind, x.named(kind, letters("a")), -1);
            due(where, "kind " + kind, x.named(kind, letters("z")), -1);
        }
        due(where, "no PHASES", new LatchTimes().named(0, letters("a")), -1);
        due(where, "no CELLS", given("phase a 0 1;").named(1, letters("a")), -1);
    }

    // ---- Part 1: tokens

    private static void noLines() {
        for (String text : new String[] {"", " ", "\n", "  \n\n ", "\n \n"}) {
            reads("A TEXT: { LINE ';' }", text, 0);
        }
        reads("A TEXT: { LINE ';' }", "seed 1;", 1);
        faults("A TEXT: { LINE ';' }", ";", 1, 0);
        faults("A TEXT: { LINE ';' }", "seed 1;;", 1, 7);
        faults("A TEXT: { LINE ';' }", "seed 1", 1, 6);
        faults("A TEXT: { LINE ';' }", "seed 1 skew 1;", 1, 7);
    }

    /** Every byte there is, in each place that a TEXT has. */
    private static void everyByte() {
        for (int sign = 0; sign < 256; sign++) {
            asFirst((char) sign);
            asWord((char) sign);
            asNumber((char) sign);
            asStop((char) sign);
            between((char) sign);
        }
    }

    private static void asFirst(char sign) {
        String where = "Words: small letters in a row; byte " + (int) sign;
        if (sign == 'p') {
            reads(where, sign + "eriod 5;", 1);
        } else {
            faults(where, sign + "eriod 5;", 1, isBlank(sign) ? 1 : 0);
        }
    }

    private static void asWord(char sign) {
        String where = "W: one of 1 .. 6 letters; byte " + (int) sign;
        if (isLetter(sign)) {
            reads(where, "phase " + sign + " 0 1;", 1);
            reads(where, "phase ab" + sign + "d 0 1;", 1);
        } else {
            faults(where, "phase " + sign + " 0 1;", 1, isBlank(sign) ? 8 : 6);
        }
    }

    private static void asNumber(char sign) {
        String where = "N: digits; byte " + (int) sign;
        if (sign == '0') {
            faults(where, "period " + sign + ";", 2, 7);
        } else if (isDigit(sign)) {
            due(where, "PERIOD", reads(where, "period " + sign + ";", 1).count(3), sign - '0');
        } else {
            faults(where, "period " + sign + ";", 1, isBlank(sign) ? 8 : 7);
        }
    }

    private static void asStop(char sign) {
        String where = "LINE ';'; byte " + (int) sign;
        if (sign == ';') {
            reads(where, "period 5" + sign, 1);
        } else {
            faults(where, "period 5" + sign, 1, isBlank(sign) || isDigit(sign) ? 9 : 8);
        }
    }

    private static void between(char sign) {
        String where = "Blanks 10, 32; byte " + (int) sign;
        if (isBlank(sign)) {
            due(where, "PERIOD", reads(where, sign + "period" + sign + "5" + sign + ";" + sign, 1).count(3), 5);
        } else if (isDigit(sign)) {
            due(where, "PERIOD", reads(where, "period" + sign + "5;", 1).count(3), 10 * (sign - '0') + 5);
        } else {
            faults(where, "period" + sign + "5;", 1, isLetter(sign) ? 0 : 6);
        }
    }

    /** A TEXT of three LINES with five names in it. */
    private static String withNames(String... names) {
        return "phase " + names[0] + " 0 1;latch " + names[1] + " " + names[2] + " 0 0 0;path " + names[3] + " " + names[4]
                + " 0 0;";
    }

    private static int placeOf(int name, String... names) {
        String[] cut = names.clone();
        cut[name] = "?";
        return withNames(cut).indexOf('?');
    }

    private static void lengthsOfWords() {
        String where = "W: one of 1 .. 6 letters";
        for (int length = 1; length <= 6; length++) {
            String w = "zyxwvu".substring(0, length);
            reads(where, withNames(w, w, w, w, w), 3);
        }
        where = "a word of more than 6 letters that isn't of the language, too";
        for (String w : new String[] {"abcdefg", "abcdefabcdef", "abcdef" + "a".repeat(58), "abcdef" + "z".repeat(500)}) {
            for (int name = 0; name < 5; name++) {
                String[] names = {"abcdef", "abcdef", "abcdef", "abcdef", "abcdef"};
                names[name] = w;
                faults(where, withNames(names), 1, placeOf(name, names));
            }
            faults(where, w + " 5;", 1, 0);
        }
        faults(where, "periodd 5;", 1, 0);
        faults(where, "pperiod 5;", 1, 0);
        faults(where, "period" + "a".repeat(7) + " 5;", 1, 0);
    }

    private static void wordsOfTheLanguage() {
        String where = "none of those of the language";
        for (String word : LANGUAGE) {
            for (int name = 0; name < 5; name++) {
                String[] names = {"a", "a", "a", "a", "a"};
                names[name] = word;
                faults(where, withNames(names), 1, placeOf(name, names));
            }
            String shorter = word.substring(0, word.length() - 1);
            reads(where, withNames(shorter, shorter, shorter, shorter, shorter), 3);
            faults("LINE: period N | phase ..", shorter + " 5;", 1, 0);
            if (word.length() < 6) {
                String longer = word + "s";
                reads(where, withNames(longer, longer, longer, longer, longer), 3);
                faults("LINE: period N | phase ..", longer + " 5;", 1, 0);
            }
        }
    }

    // ---- Part 1: numbers and how many

    /** A number's first and last value, and those beside them; high ones that wrap around to low ones, too. */
    private static void dueBounds(String ahead, int low, int high, String behind) {
        String where = "a number beyond what is said: " + low + " .. " + high;
        int lines = (int) (ahead + behind).chars().filter(c -> c == ';').count();
        for (int n : new int[] {low, high}) {
            reads(where, ahead + n + behind, lines);
            reads(where, ahead + "0".repeat(40) + n + behind, lines);
        }
        if (low > 0) {
            faults(where, ahead + (low - 1) + behind, 2, ahead.length());
        }
        for (long n : new long[] {high + 1, 10L * high + 10, 1L << 31, 1L << 32, (1L << 32) + low, (1L << 32) + high,
            (1L << 16) * 100 + high, Long.MAX_VALUE}) {
            faults(where, ahead + n + behind, 2, ahead.length());
        }
        faults(where, ahead + "18446744073709551617" + behind, 2, ahead.length());
        faults(where, ahead + "9".repeat(100) + behind, 2, ahead.length());
        faults(where, ahead + "-" + high + behind, 1, ahead.length());
    }

    private static void numbers() {
        dueBounds("period ", 1, 9999, ";");
        dueBounds("skew ", 0, 99, ";");
        dueBounds("seed ", 0, 99999, ";");
        dueBounds("phase p ", 0, 63, " 1;");
        dueBounds("phase p 0 ", 1, 63, ";");
        for (String kind : new String[] {"latch", "flop"}) {
            dueBounds("phase p 0 1;" + kind + " a p ", 0, 99, " 0 0;");
            dueBounds("phase p 0 1;" + kind + " a p 0 ", 0, 99, " 0;");
            dueBounds("phase p 0 1;" + kind + " a p 0 0 ", 0, 99, ";");
        }
        String cell = "phase p 0 1;latch a p 0 0 0;";
        dueBounds(cell + "path a a ", 0, 999, " 0;");
        dueBounds(cell + "path a a 0 ", 0, 0, ";");
        dueBounds(cell + "path a a 500 ", 0, 500, ";");
        dueBounds(cell + "path a a 999 ", 0, 999, ";");
    }

    private static void numbersAreKept() {
        String where = "what a LINE tells";
        LatchTimes x = given("period 9999;skew 99;seed 99999;phase p 63 62;phase q 0 1;latch a q 99 98 97;flop b p 0 1 2;"
                + "path a b 999 998;path b b 1 0;");
        dueRow(where, "PERIOD, SKEW", row(x.count(3), x.count(7)), 9999, 99);
        dueRow(where, "OPENS, WIDTH", row(x.opens(0, 0), x.opens(0, 1), x.opens(1, 0), x.opens(1, 1)), 63, 62, 0, 1);
        dueRow(where, "the latch", row(x.cell(0, 0), x.cell(0, 1), x.cell(0, 2), x.cell(0, 3), x.cell(0, 4)), 1, 99, 98, 97, 0);
        dueRow(where, "the flop", row(x.cell(1, 0), x.cell(1, 1), x.cell(1, 2), x.cell(1, 3), x.cell(1, 4)), 0, 0, 1, 2, 1);
        dueRow(where, "a path", row(x.path(0, 0), x.path(0, 1), x.path(0, 2), x.path(0, 3)), 0, 1, 999, 998);
        dueRow(where, "a path to the same", row(x.path(1, 0), x.path(1, 1), x.path(1, 2), x.path(1, 3)), 1, 1, 1, 0);
        // 99999 times 1103515245 and 12345, modulo 2 to the 31: 1973744620, by 65536: 30116, modulo 1000: 116
        LatchTimes y = given("seed 99999;phase p 0 1;flop a p 0 0 0;path a a 999 0;");
        due(where, "the greatest seed", y.chance(-1, 1, 2), 116);
        where = "period: (100); skew: (0); seed: (0)";
        LatchTimes z = given("phase p 0 1;flop a p 0 0 0;path a a 999 0;");
        dueRow(where, "without LINES of theirs", row(z.count(3), z.count(7), z.chance(-1, 2, 2)), 100, 0, z.chance(0, 2, 2));
        due(where, "1406932606 by 65536 modulo 1000", z.chance(-1, 2, 2), 468);
    }

    private static String cells(int latches, int flops) {
        StringBuilder t = new StringBuilder("phase p 0 1;");
        for (int i = 0; i < latches + flops; i++) {
            t.append(i < latches ? "latch " : "flop ").append((char) ('a' + i)).append(" p 0 0 0;");
        }
        return t.toString();
    }

    private static String paths(int count) {
        StringBuilder t = new StringBuilder(cells(3, 2));
        for (int i = 0; i < count; i++) {
            t.append("path ").append((char) ('a' + i / 5)).append(' ').append((char) ('a' + i % 5)).append(" 1 1;");
        }
        return t.toString();
    }

    private static void howMany() {
        String four = "phase a 0 1;phase b 0 1;phase c 0 1;phase d 0 1;";
        due("phase, at most 4", "PHASES", reads("phase, at most 4", four, 4).count(0), 4);
        for (String fifth : new String[] {"phase e 0 1;", "phase", "phase a 0 1;", "phase 5", "phase phase"}) {
            faults("a fifth phase (at the word of the LINE)", four + fifth, 2, four.length());
            faults("a fifth phase (at the word of the LINE)", four + "  " + fifth, 2, four.length() + 2);
        }
        for (int latches = 0; latches <= 10; latches += 5) {
            String ten = cells(latches, 10 - latches);
            LatchTimes x = reads("latch, flop, together at most 10", ten, 11);
            dueRow("latch, flop, together at most 10", "counts", row(x.count(1), x.count(4), x.count(8)), 10, 10 - latches,
                    latches);
            for (String more : new String[] {"latch z p 0 0 0;", "flop z p 0 0 0;", "latch", "flop", "flop a", "latch ?"}) {
                faults("an eleventh CELL (at the word of the LINE)", ten + more, 2, ten.length());
            }
        }
        String full = paths(24);
        due("path, at most 24", "paths", reads("path, at most 24", full, 1 + 5 + 24).count(2), 24);
        for (String more : new String[] {"path e e 1 1;", "path", "path a a 1 1;", "path z", "path 1"}) {
            faults("a 25th path (at the word of the LINE)", full + more, 2, full.length());
        }
    }

    // ---- Part 1: names, told already, not told

    private static void toldAlready() {
        String where = "told already: period, skew, seed (at the word)";
        faults(where, "period 100;period 100;", 3, 11);
        faults(where, "period 1; period", 3, 10);
        faults(where, "skew 0;seed 0;skew 0;", 3, 14);
        faults(where, "seed 0;seed;", 3, 7);
        faults(where, "seed 0;skew 0;period 1;seed 100000;", 3, 23);
        reads(where, "seed 0;skew 0;period 1;", 3);
        where = "told already: a name of its kind (at W)";
        String p = "phase p 0 1;";
        faults(where, p + "phase p", 3, 18);
        faults(where, p + "phase q 0 1;phase q 0 1;", 3, 30);
        for (String pair : new String[] {"latch latch", "latch flop", "flop latch", "flop flop"}) {
            String first = p + pair.split(" ")[0] + " a p 0 0 0;";
            String second = pair.split(" ")[1] + " ";
            faults(where, first + second + "a p 0 0 0;", 3, (first + second).length());
            faults(where, first + second + "a z", 3, (first + second).length());
            reads(where, first + second + "aa p 0 0 0;", 3);
        }
        reads("PHASES and CELLS have names of their kind", "phase p 0 1;latch p p 0 0 0;path p p 0 0;", 3);
        where = "of two CELLS in that order one at most; told already (at the second W)";
        String two = p + "latch a p 0 0 0;flop b p 0 0 0;";
        reads(where, two + "path a b 1 1;path b a 1 1;path a a 1 1;path b b 1 1;", 7);
        faults(where, two + "path a b 1 1;path a b 1 1;", 3, two.length() + 13 + 7);
        faults(where, two + "path a b 1 1;path b a 1 1;path a b", 3, two.length() + 26 + 7);
        faults(where, two + "path b b 1 1;path b b ?", 3, two.length() + 13 + 7);
    }

    private static void notToldAhead() {
        String where = "a PHASE, a CELL that isn't told ahead (at W)";
        String p = "phase p 0 1;";
        faults(where, "latch a p 0 0 0;", 4, 8);
        faults(where, "flop a p 0 0 0;phase p 0 1;", 4, 7);
        faults(where, p + "flop a q ?", 4, 19);
        faults(where, p + "flop a a 0 0 0;", 4, 19);
        faults(where, p + "flop a pp 0 0 0;", 4, 19);
        faults(where, p + "flop a p 0 0 0;flop b a 0 0 0;", 4, 34);
        String a = p + "latch a p 0 0 0;";
        faults(where, "path a a 1 1;", 4, 5);
        faults(where, a + "path p a 1 1;", 4, a.length() + 5);
        faults(where, a + "path a p 1 1;", 4, a.length() + 7);
        faults(where, a + "path a b 1 1;flop b p 0 0 0;", 4, a.length() + 7);
        faults(where, a + "path b a 1 1;flop b p 0 0 0;", 4, a.length() + 5);
        faults(where, a + "path b c", 4, a.length() + 5);
        faults(where, a + "path aa a 1 1;", 4, a.length() + 5);
    }

    // ---- Part 1: which FAULT, and where

    private static void whichFault() {
        String where = "FAULTS, the first along the text";
        faults(where, "period 0;skew 100;", 2, 7);
        faults(where, "skew 100;?", 2, 5);
        faults(where, "? skew 100;", 1, 0);
        faults(where, "latch a p 0 0 0;?", 4, 8);
        faults(where, "phase p 64 64;", 2, 8);
        faults(where, "phase p 1 64", 2, 10);
        faults(where, "period 5 ? period 5;", 1, 9);
        where = "of one place the least";
        String a = "phase p 0 1;latch a p 0 0 0;";
        faults(where, a + "path seed a 1 1;", 1, a.length() + 5);
        faults(where, a + "path a abcdefg 1 1;", 1, a.length() + 7);
        faults(where, "latch a abcdefg 0 0 0;", 1, 8);
        faults(where, "latch a flop 0 0 0;", 1, 8);
    }

    private static String linesAhead(int line) {
        StringBuilder t = new StringBuilder();
        for (int i = 0; i < line; i++) {
            t.append(LINES[i]);
        }
        return t.toString();
    }

    private static String joined(String[] tokens, int count) {
        return String.join(" ", java.util.Arrays.copyOf(tokens, count));
    }

    private static void moreMustCome() {
        String where = "can't stand there (the length, if more must come)";
        for (int line = 0; line < LINES.length; line++) {
            String[] tokens = LINES[line].split(" ");
            for (int count = 1; count < tokens.length; count++) {
                for (String behind : new String[] {"", " ", " \n  "}) {
                    String text = linesAhead(line) + joined(tokens, count) + behind;
                    faults(where, text, 1, text.length());
                }
            }
            reads(where, linesAhead(line + 1), line + 1);
        }
    }

    private static void wrongTokens() {
        String where = "a TOKEN that is none or can't stand there";
        for (int line = 0; line < LINES.length; line++) {
            String[] tokens = LINES[line].split(" ");
            for (int at = 0; at < tokens.length; at++) {
                String ahead = linesAhead(line) + joined(tokens, at) + " ";
                for (String token : new String[] {"?", ";", "0", "a", "path", "Z"}) {
                    boolean alike = kindOf(token) == kindOf(tokens[at]) || at == 0 && kindOf(token) == 3;
                    if (!alike) {
                        faults(where, ahead + token + " " + tokens[at] + " ;", 1, ahead.length());
                    }
                }
            }
            String whole = linesAhead(line) + joined(tokens, tokens.length - 1) + " ";
            faults(where, whole + "0;", 1, whole.length());
            faults(where, whole + "a;", 1, whole.length());
        }
    }

    /** 0 none, 1 a number, 2 a name, 3 of the language, 4 the end of a LINE. */
    private static int kindOf(String token) {
        if (java.util.Arrays.asList(LANGUAGE).contains(token)) {
            return 3;
        }
        char sign = token.charAt(0);
        return sign == ';' ? 4 : isDigit(sign) ? 1 : isLetter(sign) ? 2 : 0;
    }

    private static void numberedAsTheyCome() {
        String where = "numbered from 0 on as they come";
        LatchTimes x = given("phase b 1 1;phase a 2 1;latch z a 0 0 0;flop y b 0 0 0;latch x a 0 0 0;path y z 3 0;path z y 4 0;");
        dueRow(where, "PHASES", row(x.named(0, letters("b")), x.named(0, letters("a")), x.opens(0, 0), x.opens(1, 0)),
                0, 1, 1, 2);
        dueRow(where, "CELLS", row(x.named(1, letters("z")), x.named(1, letters("y")), x.named(1, letters("x")),
                x.cell(0, 0), x.cell(1, 0), x.cell(2, 0)), 0, 1, 2, 1, 0, 1);
        dueRow(where, "paths", row(x.path(0, 2), x.path(1, 2), x.path(0, 0), x.path(1, 0)), 3, 4, 1, 0);
    }

    public static void main(String[] args) {
        newObject();
        fullTape();
        bytesOfFeed();
        lengthsOfText();
        firstBytes();
        longestText();
        whatATextTakesAway();
        faultAsked();
        namesAsked();
        noLines();
        everyByte();
        lengthsOfWords();
        wordsOfTheLanguage();
        numbers();
        numbersAreKept();
        howMany();
        toldAlready();
        notToldAhead();
        whichFault();
        moreMustCome();
        wrongTokens();
        numberedAsTheyCome();
        endOfTest();
    }
}
