/** Counts the answers that are not as due, and prints them; each test ends with end(). */
final class Check {
    private static final int MOST_PRINTED = 40;

    private int asked = 0;
    private int wrong = 0;

    /** The label tells the promise and the call. */
    void due(String label, long got, long want) {
        asked++;
        if (got != want) {
            wrong++;
            if (wrong <= MOST_PRINTED) {
                System.out.println(label + " answered " + got + ", due is " + want);
            }
        }
    }

    boolean isClean() {
        return wrong == 0;
    }

    void end(String test) {
        System.out.println(test + ": " + asked + " answers, " + wrong + " wrong");
        if (wrong != 0) {
            System.exit(1);
        }
    }

    /** Feeds a text byte by byte. */
    static void feed(SectionLand x, String text) {
        for (int i = 0; i < text.length(); i++) {
            x.feed(text.charAt(i), 1);
        }
    }

    /** Feeds a text and reads it. */
    static int read(SectionLand x, String text) {
        feed(x, text);
        return x.system();
    }

    /** A new land with these systems. */
    static SectionLand land(String... texts) {
        SectionLand x = new SectionLand();
        for (String text : texts) {
            if (read(x, text) < 0) {
                throw new IllegalStateException("no system: " + text);
            }
        }
        return x;
    }
}
