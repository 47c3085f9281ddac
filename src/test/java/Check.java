import java.nio.charset.StandardCharsets;
import java.util.Arrays;
import java.util.function.IntPredicate;
import java.util.function.IntToLongFunction;

/** What all tests here use: answers that are due, and texts put on the tape. */
final class Check {
    static final int NONE = SpoonShort.NONE;
    /** Where a sum or a product with a number would wrap around. */
    private static final int[] FAR_OFF = {Integer.MIN_VALUE, Integer.MIN_VALUE + 1, Integer.MIN_VALUE + 10, -1000000000, 1 << 28,
        1 << 29, 1 << 30, (1 << 30) + 1, 715827883, 1431655766, -1431655765, Integer.MAX_VALUE - 1, Integer.MAX_VALUE};
    private static int right = 0;
    private static int wrong = 0;

    private Check() {
    }

    static void due(String call, long got, long want) {
        if (got == want) {
            right++;
            return;
        }
        wrong++;
        if (wrong <= 50) {
            System.out.println(call + " answered " + got + ", due is " + want);
        }
    }

    static void due(String call, boolean got, boolean want) {
        due(call, got ? 1 : 0, want ? 1 : 0);
    }

    /** For each number for which there is nothing, this is the answer: those near by, on both sides, and those far off. */
    static void none(String call, long want, IntPredicate there, IntToLongFunction answer) {
        for (int number = -24; number <= 160; number++) {
            if (!there.test(number)) {
                due(call + " for " + number, answer.applyAsLong(number), want);
            }
        }
        for (int number : FAR_OFF) {
            if (!there.test(number)) {
                due(call + " for " + number, answer.applyAsLong(number), want);
            }
        }
    }

    static IntPredicate from(int least, int most) {
        return number -> number >= least && number <= most;
    }

    static void finish() {
        System.out.println(right + " answers as due, " + wrong + " not");
        if (wrong != 0 || right == 0) {
            System.exit(1);
        }
    }

    /** The tape is just this text then. */
    static void tape(SpoonShort x, String text) {
        x.end(0);
        byte[] bytes = text.getBytes(StandardCharsets.ISO_8859_1);
        byte[] full = Arrays.copyOf(bytes, (bytes.length + 19) / 20 * 20);
        for (int i = 0; i < full.length; i += 20) {
            x.feed(four(full, i), four(full, i + 4), four(full, i + 8), four(full, i + 12), four(full, i + 16));
        }
        x.end(bytes.length);
    }

    private static int four(byte[] bytes, int at) {
        return (bytes[at] & 255) << 24 | (bytes[at + 1] & 255) << 16 | (bytes[at + 2] & 255) << 8 | bytes[at + 3] & 255;
    }

    static int tell(SpoonShort x, int sort, String text) {
        return tell(x, sort, NONE, text);
    }

    static int tell(SpoonShort x, int sort, int at, String text) {
        tape(x, text);
        return x.text(sort, at);
    }

    /** A text is answered by NONE, with this FAULT at this place. */
    static void faulty(SpoonShort x, int sort, String text, int fault, int place) {
        due("text of sort " + sort + ": " + text, tell(x, sort, text), NONE);
        due("fault(0) of: " + text, x.fault(0), fault);
        due("fault(1) of: " + text, x.fault(1), place);
        due("the tape behind: " + text, x.end(1), NONE);
    }

    /** A text is refused by a new object. */
    static void refused(int sort, String text, int fault, int place) {
        faulty(new SpoonShort(), sort, text, fault, place);
    }

    static String many(String text, int times) {
        return text.repeat(times);
    }

    /** A text is read without a FAULT, as one in a new object. */
    static SpoonShort fine(int sort, String text) {
        SpoonShort x = new SpoonShort();
        due("text of sort " + sort + ": " + text, tell(x, sort, text), 0);
        due("fault(0) of: " + text, x.fault(0), 0);
        due("fault(1) of: " + text, x.fault(1), NONE);
        return x;
    }
}
