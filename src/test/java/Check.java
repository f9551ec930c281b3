import java.util.Arrays;

/** Prints every answer that is not the one that is due, with the document's sentence it breaks. */
final class Check {
    static final long NOT_SEEN = 10000000000L;
    static final int MIN = Integer.MIN_VALUE;
    static final int MAX = Integer.MAX_VALUE;

    /** Ints around 0 and at the ends of a byte, a short and an int: a place too small changes one. */
    static final int[] INTS = {
        MIN, MIN + 1, -32769, -32768, -129, -128, -1, 0, 1, 127, 128, 255, 256, 32767, 32768, 65535,
        65536, MAX - 1, MAX};

    /** One fault may show in very many answers. */
    private static final int MOST_PRINTED = 100;

    private static String sentence = "";
    private static int asked = 0;
    private static int wrong = 0;

    private Check() {
    }

    /** The sentence of the document that the answers from here on are due by, in its own words. */
    static void sentence(String words) {
        sentence = words;
    }

    static void due(String call, long got, long want) {
        asked++;
        if (got != want) {
            wrong++;
            print(call + " answered " + got + ", due is " + want
                    + (sentence.isEmpty() ? "" : " by: " + sentence));
        }
    }

    private static void print(String line) {
        if (wrong <= MOST_PRINTED) {
            System.out.println(line);
        } else if (wrong == MOST_PRINTED + 1) {
            System.out.println("..");
        }
    }

    static void due(String call, boolean got, boolean want) {
        due(call, got ? 1L : 0L, want ? 1L : 0L);
    }

    /** The answer of the last call on any Store. */
    static void due(long got, long want) {
        if (got == want) {
            asked++;
        } else {
            due(line() + Store.lastCall(), got, want);
        }
    }

    static void due(boolean got, boolean want) {
        due(got ? 1L : 0L, want ? 1L : 0L);
    }

    /** The counts of state, in their order. */
    static void state(Store x, int... want) {
        for (int what = 0; what < want.length; what++) {
            due(x.state(what), want[what]);
        }
    }

    /** The line of the test that asked, as a run of calls may ask the same many times. */
    private static String line() {
        StackTraceElement last = null;
        for (StackTraceElement frame : new Throwable().getStackTrace()) {
            if (!frame.getClassName().equals("Check")) {
                last = frame;
                break;
            }
        }
        return last == null ? "" : last.getFileName() + ":" + last.getLineNumber() + " ";
    }

    /**
     * Numbers far from one that would be taken for it if they were cut to a byte or a short, or
     * multiplied by a power of 2, before they are looked at.
     */
    static int[] farFrom(int number) {
        return new int[] {
            number - 256, number + 256, number - 65536, number + 65536, number + (1 << 29),
            number + (1 << 30), number + MIN};
    }

    /** The numbers next to a range, the ends of int, and those far from the ends of the range. */
    static int[] outside(int least, int most) {
        int[] near = {least - 1, most + 1, MIN, MAX};
        int[] all = Arrays.copyOf(near, near.length + 14);
        System.arraycopy(farFrom(least), 0, all, near.length, 7);
        System.arraycopy(farFrom(most), 0, all, near.length + 7, 7);
        return all;
    }

    static int wrong() {
        return wrong;
    }

    static void end() {
        System.out.println(asked + " answers, " + wrong + " not as due");
        if (wrong != 0 || asked == 0) {
            System.exit(1);
        }
    }
}
