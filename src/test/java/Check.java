import java.util.function.LongSupplier;

/** What the tests share: they compare answers, count the wrong ones, and put texts into a disc. */
final class Check {
    private static final int LINES = Integer.getInteger("lines", 50);
    private static int wrong = 0;
    private static String topic = "";

    private Check() {
    }

    static void equal(String call, long got, long due) {
        if (got != due) {
            report(call + " answered " + got + ", due is " + due);
        }
    }

    static void equal(String call, String got, String due) {
        if (!got.equals(due)) {
            report(call + " answered " + got + ", due is " + due);
        }
    }

    static void isTrue(String what, boolean holds) {
        if (!holds) {
            report(what + " does not hold");
        }
    }

    static void index(String call, LongSupplier made) {
        equal(call, answer(made), "throws.IndexOutOfBoundsException");
    }

    static void argument(String call, LongSupplier made) {
        equal(call, answer(made), "throws.IllegalArgumentException");
    }

    static void state(String call, LongSupplier made) {
        equal(call, answer(made), "throws.IllegalStateException");
    }

    /** The answer as a text; the exact class of an exception behind "throws.". */
    static String answer(LongSupplier made) {
        try {
            return Long.toString(made.getAsLong());
        } catch (RuntimeException e) {
            return "throws." + e.getClass().getSimpleName();
        }
    }

    static void report(String line) {
        wrong++;
        if (wrong <= LINES) {
            System.out.println(topic.isEmpty() ? line : topic + "\n    " + line);
        }
    }

    /** What the next answers are about, for the reports. */
    static void about(String nextTopic) {
        topic = nextTopic;
    }

    static boolean hasFailed() {
        return wrong != 0;
    }

    static void end() {
        System.out.println(wrong == 0 ? "all answers are as due" : wrong + " answers are not as due");
        if (wrong != 0) {
            System.exit(1);
        }
    }

    /** Appends a text, with spaces behind it up to a multiple of 20 bytes. */
    static void append(OnceDisc disc, String text) {
        for (int from = 0; from < text.length(); from += 20) {
            int[] words = new int[5];
            for (int i = 0; i < 20; i++) {
                int value = from + i < text.length() ? text.charAt(from + i) & 255 : ' ';
                words[i / 4] = words[i / 4] << 8 | value;
            }
            disc.append(words[0], words[1], words[2], words[3], words[4]);
        }
    }

    static int parse(OnceDisc disc, String text) {
        append(disc, text);
        return disc.parse(text.length());
    }

    static OnceDisc disc(String text) {
        OnceDisc disc = new OnceDisc();
        equal("parse of " + text, parse(disc, text), 0);
        return disc;
    }

    static int find(OnceDisc disc, String name) {
        append(disc, name);
        return disc.find();
    }
}
