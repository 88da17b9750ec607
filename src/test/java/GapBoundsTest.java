/** Promises 29 to 33 and what the terms say of LAID SYSTEMS and GAPS, at their bounds. */
public final class GapBoundsTest {
    private static final int NONE = SectionLand.NONE, STATE = SectionLand.STATE;
    private static final int MAN = 0, WOMAN = 1, BY_MOTHER = 0, BY_FATHER = 1;
    private static final Check check = new Check();

    public static void main(String[] args) {
        layArguments();
        unlikeSizes();
        leastAgreed();
        mostAgreed();
        agreedByTables();
        theLeastOfSeveral();
        liesArguments();
        liesOfTheLatest();
        openArguments();
        openToStrangers();
        openByTheLawOfBirth();
        openToChildren();
        toldOnesHaveTheirs();
        narrowedByTheLaw();
        noFilling();
        sureOfNobody();
        sureOfAll();
        countWhats();
        countEach();
        check.end("GapBoundsTest");
    }

    private static void layArguments() {
        check.sentence(29, "THE BEST of two SYSTEMS: how much is AGREED. NONE;");
        for (int k = 0; k <= 4; k++) {
            String[] texts = new String[k];
            java.util.Arrays.fill(texts, Texts.TWO);
            SectionLand x = Check.land(texts);
            check.outside("first of " + k, 0, k - 1, NONE, s -> x.lay(s, 0));
            check.outside("second of " + k, 0, k - 1, NONE, s -> x.lay(0, s));
            for (int first = 0; first < k; first++) {
                for (int second = 0; second < k; second++) {
                    check.due(first + " on " + second, x.lay(first, second), 4);
                }
            }
        }
    }

    private static void unlikeSizes() {
        check.sentence(29, "STATE: unlike n.");
        for (int n = 2; n <= 8; n++) {
            for (int m = 2; m <= 8; m++) {
                SectionLand x = Check.land(Texts.still(n), Texts.still(m));
                check.due(n + " on " + m, x.lay(0, 1), n == m ? 2 * n : STATE);
                check.due("lies of " + n + " on " + m, x.lies(0), n == m ? 0 : NONE);
            }
        }
    }

    private static void leastAgreed() {
        check.sentence(29, "how much is AGREED");
        for (int n = 2; n <= 8; n++) {
            SectionLand x = Check.land(Texts.still(n), Texts.turning(n, 1, 2), Texts.turning(n, 1, 1));
            check.due("nothing of " + n, x.lay(0, 1), 0);
            for (int c = 0; c < n; c++) {
                check.due("then the least", x.lies(c), c);
            }
            // Of the third the child of a woman's is her class, of the second it is not.
            check.due("the children's of " + n, x.lay(0, 2), n);
            check.due("the wives' of " + n, x.lay(1, 2), n);
        }
    }

    private static void mostAgreed() {
        check.sentence(0, "each class of the first on one of the second, one to one");
        String[] texts = {Texts.TWO, Texts.THREE, Texts.FOUR, Texts.SIX, Texts.EIGHT, Texts.FIFTEEN};
        for (String text : texts) {
            SectionLand x = Check.land(text);
            int n = x.table(0, 0, 4);
            check.due("on itself", x.lay(0, 0), 2 * n);
            int seen = 0;
            for (int c = 0; c < n; c++) {
                seen |= 1 << x.lies(c);
            }
            check.due("each once", seen, (1 << n) - 1);
        }
        // EIGHT with its classes named from the other end.
        SectionLand x = Check.land(Texts.EIGHT, "h+g=h;g+f=f;f+e=e;e+d=d;d+c=c;c+b=b;b+a=a;a+h=g");
        check.due("by other names", x.lay(0, 1), 16);
        check.row("from the other end", 0, x::lies, 7, 6, 5, 4, 3, 2, 1, 0, NONE);
    }

    /** The most that any laying has from a class on, with those below lying as told; by the tables alone. */
    private static int mostFrom(int[][] first, int[][] second, int[] on, int c) {
        int n = on.length;
        if (c == n) {
            int agreed = 0;
            for (int i = 0; i < n; i++) {
                agreed += on[first[0][i]] == second[0][on[i]] ? 1 : 0;
                agreed += on[first[1][i]] == second[1][on[i]] ? 1 : 0;
            }
            return agreed;
        }
        int most = -1;
        for (int d = 0; d < n; d++) {
            boolean isFree = true;
            for (int i = 0; i < c; i++) {
                isFree &= on[i] != d;
            }
            if (isFree) {
                on[c] = d;
                most = Math.max(most, mostFrom(first, second, on, c + 1));
            }
        }
        return most;
    }

    private static int[][] tables(SectionLand x, int system) {
        int n = x.table(system, 0, 4);
        int[][] tables = new int[2][n];
        for (int c = 0; c < n; c++) {
            tables[0][c] = x.table(system, c, 0);
            tables[1][c] = x.table(system, c, 1);
        }
        return tables;
    }

    private static void agreedByTables() {
        check.sentence(0, "AGREED are for how many classes the WIFE's class lies on the WIFE of what it lies on, and for "
                + "how many the CHILD of a woman's does so; THE BEST has most together;");
        String[][] fours = {
            {Texts.FOUR, "a+a=b;b+c=a;c+b=d;d+d=c", Texts.turning(4, 1, 3), "a+b=a;b+a=b;c+c=c;d+d=d"},
            {Texts.THREE, "a+a=b;b+c=a;c+b=c", "a+c=c;b+b=a;c+a=b", Texts.still(3)},
            {Texts.FIFTEEN, Texts.EIGHT, Texts.turning(8, 3, 1), "a+b=h;b+a=g;c+d=f;d+c=e;e+f=d;f+e=c;g+h=b;h+g=a"}};
        for (String[] four : fours) {
            SectionLand x = Check.land(four);
            int[][][] all = {tables(x, 0), tables(x, 1), tables(x, 2), tables(x, 3)};
            for (int pair = 0; pair < 16; pair++) {
                int[] on = new int[all[0][0].length];
                int most = mostFrom(all[pair / 4], all[pair % 4], on, 0);
                check.due(pair / 4 + " on " + pair % 4 + " of " + on.length, x.lay(pair / 4, pair % 4), most);
            }
        }
    }

    private static void theLeastOfSeveral() {
        check.sentence(0, "of several the one in which class 0 lies on the least, then class 1, and so on");
        for (int n = 2; n <= 8; n++) {
            SectionLand x = Check.land(Texts.turning(n, 1, 1), Texts.turning(n, n - 1, n - 1), Texts.still(n));
            check.due("turned back", x.lay(0, 1), 2 * n);
            for (int c = 0; c < n; c++) {
                check.due("class " + c + " of " + n, x.lies(c), (n - c) % n);
            }
            x.lay(2, 2);
            for (int c = 0; c < n; c++) {
                check.due("every one is as good, " + c + " of " + n, x.lies(c), c);
            }
        }
    }

    private static void liesArguments() {
        check.sentence(30, "NONE.");
        for (int n = 2; n <= 8; n++) {
            SectionLand x = Check.land(Texts.turning(n, 1, 1));
            check.outside("ahead of any", 0, -1, NONE, x::lies);
            x.lay(0, 0);
            check.outside("class of " + n, 0, n - 1, NONE, x::lies);
            check.due("the first", x.lies(0), 0);
            check.due("the last", x.lies(n - 1), n - 1);
        }
    }

    private static void liesOfTheLatest() {
        check.sentence(30, "in THE BEST of the latest lay() that was not refused");
        SectionLand x = Check.land(Texts.turning(3, 1, 1), Texts.turning(3, 2, 2), Texts.TWO);
        x.lay(0, 3);
        x.lay(0, 2);
        check.row("refused ones alone", -1, x::lies, NONE, NONE, NONE);
        x.lay(0, 1);
        check.row("the latest", -1, x::lies, NONE, 0, 2, 1, NONE);
        x.lay(0, 2);
        x.lay(2, 0);
        x.lay(3, 0);
        x.lay(-1, 0);
        x.lay(0, 3);
        check.row("refused ones behind it", -1, x::lies, NONE, 0, 2, 1, NONE);
        x.lay(2, 2);
        check.row("of two classes", -1, x::lies, NONE, 0, 1, NONE);
        x.lay(0, 0);
        check.row("of three again", -1, x::lies, NONE, 0, 1, 2, NONE);
    }

    private static SectionLand camp(int n, int by) {
        SectionLand x = Check.land(Texts.still(n), Texts.still(2));
        x.camp(0, by);
        return x;
    }

    private static void openArguments() {
        check.sentence(31, "The classes that are OPEN to somebody, as bits (0: there is no FILLING). NONE.");
        SectionLand x = camp(2, BY_MOTHER);
        check.outside("of nobody", 0, -1, NONE, x::open);
        x.stranger(MAN, 0, 0, NONE);
        x.stranger(MAN, 0, 0, 1);
        check.outside("of two", 0, 1, NONE, x::open);
        check.row("of two", -1, x::open, NONE, 3, 2, NONE);
    }

    private static void openToStrangers() {
        check.sentence(0, "who is of no told class may be of any class of the law in force at birth");
        for (int n = 2; n <= 8; n++) {
            SectionLand x = camp(n, BY_MOTHER);
            x.stranger(MAN, 0, 0, NONE);
            check.due("any of " + n, x.open(0), (1 << n) - 1);
            for (int c = 0; c < n; c++) {
                check.due("told " + c, x.open(x.stranger(MAN, 0, 0, c)), 1 << c);
            }
        }
    }

    private static void openByTheLawOfBirth() {
        check.sentence(0, "(of a STRANGER: of that law of the CAMP)");
        SectionLand x = camp(8, BY_MOTHER);
        x.camp(1, BY_MOTHER);
        x.law(0, 500, 1, BY_MOTHER);
        x.stranger(MAN, 0, 0, NONE);
        x.stranger(MAN, 499, 0, NONE);
        x.stranger(MAN, 500, 0, NONE);
        x.stranger(MAN, 999, 0, NONE);
        x.stranger(MAN, 0, 1, NONE);
        check.row("by the year and the camp", 0, x::open, 255, 255, 3, 3, 3, NONE);
        x.law(0, 1, 1, BY_MOTHER);
        check.row("with a law from 1 on", 0, x::open, 255, 3, 3, 3, 3, NONE);
    }

    /** The child of a woman's turns by one, that of a man's by two. */
    private static void openToChildren() {
        check.sentence(0, "each child has that which its law makes of its mother's or father's");
        for (int by = BY_MOTHER; by <= BY_FATHER; by++) {
            SectionLand x = Check.land(Texts.turning(5, 1, 2));
            x.camp(0, by);
            x.stranger(WOMAN, 0, 0, 4);
            x.stranger(MAN, 0, 0, NONE);
            x.stranger(WOMAN, 0, 0, NONE);
            x.stranger(MAN, 0, 0, 4);
            x.born(MAN, 20, 0, 1);
            x.born(MAN, 20, 2, 3);
            x.born(MAN, 20, 2, 1);
            int first = by == BY_MOTHER ? 1 : 31;
            int second = by == BY_MOTHER ? 31 : 2;
            check.row("open", 0, x::open, 16, 31, 31, 16, first, second, 31, NONE);
            check.due("sure", x.sure(), 3);
        }
    }

    private static void toldOnesHaveTheirs() {
        check.sentence(0, "a FILLING gives each of the PEOPLE a class so that told ones have theirs");
        SectionLand x = camp(8, BY_MOTHER);
        x.stranger(MAN, 500, 0, 7);
        x.stranger(MAN, 500, 0, NONE);
        x.law(0, 500, 1, BY_MOTHER);
        check.row("behind a law with fewer", 0, x::open, 128, 3, NONE);
        check.due("sure", x.sure(), 1);
    }

    /** The parents may be of eight classes, the child of m: so they are of those that its law has. */
    private static void narrowedByTheLaw() {
        check.sentence(0, "A class is OPEN to somebody if some FILLING gives it.");
        for (int m = 2; m <= 8; m++) {
            SectionLand x = Check.land(Texts.still(8), Texts.still(m));
            x.camp(0, BY_MOTHER);
            x.law(0, 20, 1, BY_MOTHER);
            x.stranger(WOMAN, 0, 0, NONE);
            x.stranger(MAN, 0, 0, NONE);
            x.stranger(WOMAN, 0, 0, NONE);
            check.row("ahead of the birth", 0, x::open, 255, 255, 255);
            x.born(MAN, 20, 0, 1);
            int narrowed = (1 << m) - 1;
            check.row("behind it, of " + m, 0, x::open, narrowed, 255, 255, narrowed, NONE);
        }
    }

    private static void noFilling() {
        check.sentence(31, "(0: there is no FILLING)");
        for (int c = 0; c < 8; c++) {
            SectionLand x = camp(8, BY_MOTHER);
            x.law(0, 20, 1, BY_MOTHER);
            x.stranger(WOMAN, 0, 0, c);
            x.stranger(MAN, 0, 0, NONE);
            x.born(MAN, 20, 0, 1);
            boolean filled = c < 2;
            check.row("class " + c, 0, x::open, filled ? 1 << c : 0, filled ? 255 : 0, filled ? 1 << c : 0, NONE);
            check.due("sure, class " + c, x.sure(), filled ? 2 : -5);
        }
        check.sentence(32, "-5: there is no FILLING.");
        SectionLand x = camp(8, BY_MOTHER);
        x.law(0, 20, 1, BY_MOTHER);
        x.stranger(WOMAN, 0, 0, 2);
        x.stranger(MAN, 0, 0, 1);
        check.due("ahead of the birth", x.sure(), 2);
        x.born(MAN, 20, 0, 1);
        check.due("behind it", x.sure(), -5);
        check.due("nobody else has one", x.open(1), 0);
        check.due("none such is NONE still", x.open(3), NONE);
        x.law(0, 20, 1, BY_FATHER);
        check.due("by the father", x.sure(), 3);
        x.law(0, 20, 0, BY_MOTHER);
        check.due("by eight classes", x.sure(), 3);
    }

    private static void sureOfNobody() {
        check.sentence(32, "How many of all PEOPLE have just one OPEN class");
        check.due("a new object", new SectionLand().sure(), 0);
        SectionLand x = camp(2, BY_MOTHER);
        check.due("nobody", x.sure(), 0);
        x.stranger(WOMAN, 0, 0, NONE);
        check.due("two classes are open", x.sure(), 0);
        x.stranger(MAN, 0, 0, NONE);
        x.born(MAN, 20, 0, 1);
        check.due("to all three", x.sure(), 0);
        x.stranger(WOMAN, 0, 0, 0);
        check.due("one", x.sure(), 1);
    }

    private static void sureOfAll() {
        check.sentence(32, "of all PEOPLE");
        SectionLand x = camp(8, BY_MOTHER);
        x.camp(0, BY_MOTHER);
        x.stranger(WOMAN, 0, 0, 7);
        x.stranger(MAN, 0, 1, NONE);
        for (int p = 2; p < 48; p++) {
            if (p % 2 == 0) {
                x.stranger(MAN, 0, 1, p % 8);
            } else {
                x.born(MAN, 20, 0, 1);
            }
        }
        check.due("all but one", x.sure(), 47);
        check.due("the last", x.open(47), 128);
        x.die(47, 50);
        check.due("the dead are of them", x.sure(), 47);
    }

    private static void countWhats() {
        check.sentence(33, "NONE.");
        check.outside("of a new object", 0, 7, NONE, new SectionLand()::count);
        SectionLand x = camp(2, BY_MOTHER);
        x.stranger(MAN, 0, 0, NONE);
        check.outside("what", 0, 7, NONE, x::count);
    }

    private static void countEach() {
        check.sentence(33, "0 SYSTEMS, 1 CAMPS, 2 PEOPLE, 3 MARRIAGES, 4 AGE, 5 bytes of THE TAPE, 6 that QUARREL, "
                + "7 without a CLASS.");
        SectionLand x = camp(2, BY_MOTHER);
        check.row("a camp", -1, x::count, NONE, 2, 1, 0, 0, 16, 0, 0, 0, NONE);
        x.stranger(WOMAN, 0, 0, 0);
        x.stranger(MAN, 0, 0, 1);
        x.stranger(MAN, 0, 0, NONE);
        check.row("three people", -1, x::count, NONE, 2, 1, 3, 0, 16, 0, 0, 1, NONE);
        x.born(MAN, 20, 0, 1);
        x.born(MAN, 20, 0, 1);
        x.born(MAN, 20, 0, 2);
        x.marry(1, 0, 30);
        x.age(20);
        x.feed(0, 7);
        check.row("and more", -1, x::count, NONE, 2, 1, 6, 1, 20, 7, 2, 1, NONE);
        x.die(0, 40);
        x.die(3, 40);
        x.die(2, 40);
        check.row("the dead are counted", -1, x::count, NONE, 2, 1, 6, 1, 20, 7, 2, 1, NONE);
        x.law(0, 20, 0, BY_FATHER);
        check.row("by the father", -1, x::count, NONE, 2, 1, 6, 1, 20, 7, 2, 2, NONE);
    }
}
