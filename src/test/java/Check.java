import java.util.function.IntUnaryOperator;

/** Counts the answers that are not as due, and prints them; each test ends with end(). */
final class Check {
    private static final int MOST_PRINTED = 40;

    private int asked = 0;
    private int wrong = 0;
    private String words = "";

    /** The words of a promise (0: of the terms) by which the next answers are due. */
    void sentence(int promise, String itsWords) {
        words = promise + " \"" + itsWords + "\": ";
        due("these words stand in the document", Doc.says(promise, itsWords) ? 1 : 0, 1);
    }

    /** The label tells the call; without a sentence, the promise, too. */
    void due(String label, long got, long want) {
        asked++;
        if (got != want) {
            wrong++;
            if (wrong <= MOST_PRINTED) {
                System.out.println(words + label + " answered " + got + ", due is " + want);
            }
        }
    }

    /** One below the least, one above the greatest and at both ends of int the call is refused. */
    void outside(String label, int least, int greatest, int refusal, IntUnaryOperator call) {
        int[] numbers = {least - 1, greatest + 1, Integer.MIN_VALUE, Integer.MIN_VALUE + 1,
                Integer.MAX_VALUE - 1, Integer.MAX_VALUE};
        for (int number : numbers) {
            due(label + " " + number, call.applyAsInt(number), refusal);
        }
    }

    /** The answers to the numbers from the first one on. */
    void row(String label, int first, IntUnaryOperator call, int... want) {
        for (int i = 0; i < want.length; i++) {
            due(label + " " + (first + i), call.applyAsInt(first + i), want[i]);
        }
    }

    boolean isClean() {
        return wrong == 0;
    }

    void end(String test) {
        System.out.println(test + ": " + asked + " answers, " + wrong + " wrong");
        if (wrong != 0) {
            System.exit(1);
        }
    }

    /** Feeds a text eight bytes at a time. */
    static void feed(SectionLand x, String text) {
        for (int at = 0; at < text.length(); at += 8) {
            int size = Math.min(8, text.length() - at);
            x.feed(word(text.substring(at, at + size)), size);
        }
    }

    /** Up to eight bytes in one number, the first the highest. */
    static long word(String bytes) {
        long w = 0;
        for (int i = 0; i < bytes.length(); i++) {
            w = w << 8 | bytes.charAt(i);
        }
        return w;
    }

    /** Feeds a text and reads it. */
    static int read(SectionLand x, String text) {
        feed(x, text);
        return x.system();
    }

    /** A new land with these systems. */
    static SectionLand land(String... texts) {
        SectionLand x = new SectionLand();
        for (String text : texts) {
            if (read(x, text) < 0) {
                throw new IllegalStateException("no system: " + text);
            }
        }
        return x;
    }
}
