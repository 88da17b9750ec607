/** Systems that several tests use. */
final class Texts {
    /** wife 1 0 3 2, child of a woman's 3 2 1 0, child of a man's 2 3 0 1. */
    static final String FOUR = "a+b=c;b+a=d;c+d=a;d+c=b";
    /** wife 1 0, child of a woman's 0 1, child of a man's 1 0. */
    static final String TWO = "a+b=b;b+a=a";
    /** wife, child of a woman's: one on; child of a man's: two on. */
    static final String THREE = "a+b=c;b+c=a;c+a=b";
    /** wife turns 0 1 2 and 3 4 5 6 7, child of a woman's stays. */
    static final String FIFTEEN = "a+b=b;b+c=c;c+a=a;d+e=e;e+f=f;f+g=g;g+h=h;h+d=d";
    /** wife turns all six, child of a woman's changes 0 and 1: all 720 turnings. */
    static final String SIX = "a+b=a;b+c=c;c+d=d;d+e=e;e+f=f;f+a=b";
    /** The same of eight: all 40320 turnings. */
    static final String EIGHT = "a+b=a;b+c=c;c+d=d;d+e=e;e+f=f;f+g=g;g+h=h;h+a=b";

    private Texts() {
    }

    static char letter(int c) {
        return (char) ('a' + c);
    }

    /** Rules in which class c marries class c + wife, and their child is of c + child, all modulo n. */
    static String turning(int n, int wife, int child) {
        StringBuilder text = new StringBuilder();
        for (int c = 0; c < n; c++) {
            text.append(c == 0 ? "" : ";").append(letter(c)).append('+').append(letter((c + wife) % n))
                    .append('=').append(letter((c + child) % n));
        }
        return text.toString();
    }

    /** Everybody marries within the class and the child is of it. */
    static String still(int n) {
        return turning(n, 0, 0);
    }

    static String with(String text, int place, int sign) {
        return text.substring(0, place) + (char) sign + text.substring(place + 1);
    }
}
