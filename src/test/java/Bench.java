import java.util.HashSet;
import java.util.Set;

/** What the tests share: texts onto the tape, nets that many of them use, answers compared with those that are due. */
abstract class Bench {
    static final long NO = Long.MIN_VALUE;
    static final int LEAST_INT = Integer.MIN_VALUE;
    static final int GREATEST_INT = Integer.MAX_VALUE;

    /** LEAVES: a 256 (by f), b 320 (by a); the loop of a and b adds nothing at 20, so 20 is RATIO. */
    static final String RING = "period 20;phase p 0 32;phase q 32 32;flop f p 2 1 1;latch a q 1 1 1;"
            + "latch b p 1 2 0;path f a 12 4;path a b 9 3;path b a 8 8;path b f 5 1;skew 1;seed 42;";

    private static final Set<Object> CHECKED = new HashSet<>();
    private static int wrong = 0;
    private static int asked = 0;

    /** Where: the promise's number, or words of the document. */
    static void due(Object where, String call, long got, long want) {
        asked++;
        CHECKED.add(where);
        if (got != want) {
            wrong++;
            System.out.println(where + ": " + call + " answered " + got + ", due is " + want);
        }
    }

    static boolean isChecked(Object where) {
        return CHECKED.contains(where);
    }

    static void due(Object where, String call, boolean got, boolean want) {
        due(where, call, got ? 1 : 0, want ? 1 : 0);
    }

    static void dueRow(Object where, String name, long[] got, long... want) {
        due(where, "answers of " + name, got.length, want.length);
        for (int i = 0; i < Math.min(got.length, want.length); i++) {
            due(where, name + ", answer " + i, got[i], want[i]);
        }
    }

    static long[] row(long... numbers) {
        return numbers;
    }

    /** Puts a text on the tape, with bytes 0 behind it up to a whole feed; a sign is the byte of its number. */
    static void feed(LatchTimes x, String text) {
        byte[] bytes = new byte[(text.length() + 19) / 20 * 20];
        for (int i = 0; i < text.length(); i++) {
            bytes[i] = (byte) text.charAt(i);
        }
        java.nio.ByteBuffer b = java.nio.ByteBuffer.wrap(bytes);
        while (b.hasRemaining()) {
            x.feed(b.getInt(), b.getInt(), b.getInt(), b.getInt(), b.getInt());
        }
    }

    static LatchTimes given(String text) {
        LatchTimes x = new LatchTimes();
        feed(x, text);
        if (x.text(text.length()) < 0) {
            throw new IllegalStateException(text + ": fault " + x.fault(0) + " at " + x.fault(1));
        }
        return x;
    }

    static int letters(String word) {
        int code = 0;
        for (int i = 0; i < 6; i++) {
            code = code * 32 + (i < word.length() ? word.charAt(i) - 'a' + 1 : 0);
        }
        return code;
    }

    static void endOfTest() {
        System.out.println(wrong == 0 ? asked + " answers are as due" : wrong + " answers are not as due");
        if (wrong != 0) {
            System.exit(1);
        }
    }
}
