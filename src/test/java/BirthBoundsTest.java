/** Promises 16, 21, 23 and 24, and what the terms say of children, CLASSES and QUARRELS, at their bounds. */
public final class BirthBoundsTest {
    private static final int NONE = SectionLand.NONE, BAD = SectionLand.BAD, STATE = SectionLand.STATE;
    private static final int MAN = 0, WOMAN = 1, BY_MOTHER = 0, BY_FATHER = 1;
    private static final int LEAST = Integer.MIN_VALUE, GREATEST = Integer.MAX_VALUE;
    /** The mother and the father of most births here. */
    private static final int MOTHER = 0, FATHER = 1;
    private static final Check check = new Check();

    public static void main(String[] args) {
        bornArguments();
        bornYears();
        bothOrNeither();
        womanAndMan();
        motherLives();
        fatherLived();
        twelveYears();
        mothersCamp();
        classByMother();
        classByFather();
        lawOfBirth();
        parentHasNone();
        classThatTheSystemHasNot();
        quarrels();
        aboutArguments();
        aboutEach();
        aboutNone();
        childrenByAYear();
        childrenArguments();
        livingArguments();
        livingOfClasses();
        check.end("BirthBoundsTest");
    }

    /** A woman and a man born in these years, of classes 0 and 1 that their children keep. */
    private static SectionLand pair(int hers, int his) {
        SectionLand x = Check.land(Texts.still(2));
        x.camp(0, BY_MOTHER);
        x.stranger(WOMAN, hers, 0, 0);
        x.stranger(MAN, his, 0, 1);
        return x;
    }

    private static SectionLand pair() {
        return pair(100, 100);
    }

    private static void bornArguments() {
        check.sentence(16, "A child is born: its number. NONE: sex, mother, father;");
        check.outside("sex", 0, 1, NONE, sex -> pair().born(sex, 120, MOTHER, FATHER));
        check.outside("mother", 0, 1, NONE, p -> pair().born(MAN, 120, p, FATHER));
        check.outside("father", 0, 1, NONE, p -> pair().born(MAN, 120, MOTHER, p));
        check.row("sex", -1, sex -> pair().born(sex, 120, MOTHER, FATHER), NONE, 2, 2, NONE);
        SectionLand x = pair();
        check.row("number", 2, p -> x.born(p & 1, 120, MOTHER, FATHER), 2, 3, 4);
        check.row("sex", 2, p -> x.about(p, 0), MAN, WOMAN, MAN, -5);
        check.due("nobody else", x.born(MAN, 120, MOTHER, 5), NONE);
        check.due("nobody came", x.count(2), 5);
    }

    private static void bornYears() {
        check.sentence(16, "BAD: year, they are no woman and man;");
        check.outside("year", 0, 999, BAD, year -> pair().born(MAN, year, MOTHER, FATHER));
        check.due("year 0", pair(0, 0).born(MAN, 0, MOTHER, FATHER), STATE);
        check.due("year 11", pair(0, 0).born(MAN, 11, MOTHER, FATHER), STATE);
        check.due("year 12", pair(0, 0).born(MAN, 12, MOTHER, FATHER), 2);
        check.due("year 998", pair().born(MAN, 998, MOTHER, FATHER), 2);
        SectionLand x = pair();
        check.due("year 999", x.born(WOMAN, 999, MOTHER, FATHER), 2);
        check.due("its birth", x.about(2, 1), 999);
        x.born(MAN, 1000, MOTHER, FATHER);
        check.due("nobody in 1000", x.count(2), 3);
    }

    private static void bothOrNeither() {
        check.sentence(0, "a mother and a father (both, or neither: a STRANGER)");
        SectionLand x = pair();
        check.due("no mother", x.born(MAN, 120, NONE, FATHER), NONE);
        check.due("no father", x.born(MAN, 120, MOTHER, NONE), NONE);
        check.due("neither", x.born(MAN, 120, NONE, NONE), NONE);
        check.due("nobody came", x.count(2), 2);
        check.due("both", x.born(MAN, 120, MOTHER, FATHER), 2);
        check.row("mothers", 0, p -> x.about(p, 4), NONE, NONE, MOTHER, -5);
        check.row("fathers", 0, p -> x.about(p, 5), NONE, NONE, FATHER, -5);
    }

    private static void womanAndMan() {
        check.sentence(16, "they are no woman and man");
        SectionLand x = pair();
        check.due("changed about", x.born(MAN, 120, FATHER, MOTHER), BAD);
        check.due("two women", x.born(MAN, 120, MOTHER, MOTHER), BAD);
        check.due("two men", x.born(MAN, 120, FATHER, FATHER), BAD);
        check.due("nobody came", x.count(2), 2);
    }

    private static SectionLand died(int person, int year) {
        SectionLand x = pair();
        x.die(person, year);
        return x;
    }

    private static void motherLives() {
        check.sentence(16, "STATE: the mother does not live then");
        check.due("the year ahead of her death", died(MOTHER, 150).born(MAN, 149, MOTHER, FATHER), 2);
        check.due("that of her death", died(MOTHER, 150).born(MAN, 150, MOTHER, FATHER), STATE);
        check.due("behind it", died(MOTHER, 150).born(MAN, 151, MOTHER, FATHER), STATE);
        check.due("in 999, if she dies in 1000", died(MOTHER, 1000).born(MAN, 999, MOTHER, FATHER), 2);
        check.due("ahead of her birth", pair(500, 100).born(MAN, 499, MOTHER, FATHER), STATE);
        SectionLand x = died(MOTHER, 150);
        x.born(MAN, 150, MOTHER, FATHER);
        check.due("nobody came", x.count(2), 2);
    }

    private static void fatherLived() {
        check.sentence(16, "or the father did not the YEAR before and does not then");
        check.due("he lives in both", died(FATHER, 150).born(MAN, 149, MOTHER, FATHER), 2);
        check.due("he lived the year before", died(FATHER, 150).born(MAN, 150, MOTHER, FATHER), 2);
        check.due("in neither", died(FATHER, 150).born(MAN, 151, MOTHER, FATHER), STATE);
        check.due("long behind", died(FATHER, 150).born(MAN, 999, MOTHER, FATHER), STATE);
        check.due("in 999 of him who dies in 999", died(FATHER, 999).born(MAN, 999, MOTHER, FATHER), 2);
        check.due("in 999 of him who dies in 998", died(FATHER, 998).born(MAN, 999, MOTHER, FATHER), STATE);
        check.due("ahead of his birth", pair(100, 500).born(MAN, 499, MOTHER, FATHER), STATE);
        SectionLand x = died(FATHER, 112);
        check.due("at twelve he died", x.born(MAN, 112, MOTHER, FATHER), 2);
        check.due("a year later", x.born(MAN, 113, MOTHER, FATHER), STATE);
    }

    private static void twelveYears() {
        check.sentence(16, "or one was born less than 12 YEARS ahead");
        check.due("mother of 11", pair(109, 100).born(MAN, 120, MOTHER, FATHER), STATE);
        check.due("mother of 12", pair(108, 100).born(MAN, 120, MOTHER, FATHER), 2);
        check.due("mother of 13", pair(107, 100).born(MAN, 120, MOTHER, FATHER), 2);
        check.due("father of 11", pair(100, 109).born(MAN, 120, MOTHER, FATHER), STATE);
        check.due("father of 12", pair(100, 108).born(MAN, 120, MOTHER, FATHER), 2);
        check.due("father of 13", pair(100, 107).born(MAN, 120, MOTHER, FATHER), 2);
        check.due("both of 11", pair(109, 109).born(MAN, 120, MOTHER, FATHER), STATE);
        check.due("both of 12", pair(108, 108).born(MAN, 120, MOTHER, FATHER), 2);
        check.due("both of 0", pair(120, 120).born(MAN, 120, MOTHER, FATHER), STATE);
        check.due("both of 999", pair(0, 0).born(MAN, 999, MOTHER, FATHER), 2);
        SectionLand x = pair();
        x.age(40);
        check.due("AGE hinders no birth", x.born(MAN, 112, MOTHER, FATHER), 2);
    }

    private static void mothersCamp() {
        check.sentence(0, "A child is of its mother's CAMP.");
        SectionLand x = Check.land(Texts.still(2));
        for (int camp = 0; camp < 3; camp++) {
            x.camp(0, BY_FATHER);
            x.stranger(WOMAN, 100, camp, 0);
            x.stranger(MAN, 100, camp, 0);
        }
        int born = 6;
        for (int hers = 0; hers < 3; hers++) {
            for (int his = 0; his < 3; his++) {
                check.due("number", x.born(MAN, 120, 2 * hers, 2 * his + 1), born);
                check.due("of her camp", x.about(born, 3), hers);
                born++;
            }
        }
    }

    /** wife 1 2 0, child of a woman's 0 2 1, child of a man's 2 1 0; one parent of each class and sex. */
    private static SectionLand mixed(int by) {
        SectionLand x = Check.land("c+a=a;a+b=c;b+c=b");
        x.camp(0, by);
        for (int c = 0; c < 3; c++) {
            x.stranger(WOMAN, 100, 0, c);
            x.stranger(MAN, 100, 0, c);
        }
        return x;
    }

    private static void classesOfAll(int by) {
        int[] ofWomans = {0, 2, 1};
        int[] ofMans = {2, 1, 0};
        SectionLand x = mixed(by);
        for (int hers = 0; hers < 3; hers++) {
            for (int his = 0; his < 3; his++) {
                int child = x.born(MAN, 120, 2 * hers, 2 * his + 1);
                int first = by == BY_MOTHER ? ofWomans[hers] : ofMans[his];
                int other = by == BY_MOTHER ? ofMans[his] : ofWomans[hers];
                check.due("class of " + hers + " and " + his, x.about(child, 6), first);
                check.due("the other of " + hers + " and " + his, x.about(child, 7), other);
                check.due("quarrel of " + hers + " and " + his, x.about(child, 8), first == other ? 0 : 1);
            }
        }
    }

    private static void classByMother() {
        check.sentence(0, "BY MOTHER: CHILD of a woman of its mother's CLASS;");
        classesOfAll(BY_MOTHER);
    }

    private static void classByFather() {
        check.sentence(0, "BY FATHER: of a man of its father's CLASS;");
        classesOfAll(BY_FATHER);
    }

    /** By the mother up to a year, by the father from it on; classes stay. */
    private static void lawOfBirth() {
        check.sentence(0, "Of a child, by the law of its CAMP in the YEAR of its birth");
        SectionLand x = pair();
        x.law(0, 200, 0, BY_FATHER);
        check.due("ahead", x.about(x.born(MAN, 199, MOTHER, FATHER), 6), 0);
        check.due("in that year", x.about(x.born(MAN, 200, MOTHER, FATHER), 6), 1);
        check.due("behind", x.about(x.born(MAN, 201, MOTHER, FATHER), 6), 1);
        x.law(0, 201, 0, BY_MOTHER);
        check.row("with a law of the last one's birth", 2, p -> x.about(p, 6), 0, 1, 0, -5);
        x.law(0, 199, 0, BY_FATHER);
        check.row("with a law of the first one's birth", 2, p -> x.about(p, 6), 1, 1, 0, -5);
        x.law(0, 202, 0, BY_FATHER);
        check.row("with a law behind all births", 2, p -> x.about(p, 6), 1, 1, 0, -5);
        SectionLand y = Check.land(Texts.still(2));
        y.camp(0, BY_MOTHER);
        y.camp(0, BY_FATHER);
        y.stranger(WOMAN, 100, 0, 0);
        y.stranger(MAN, 100, 1, 1);
        check.due("not by the father's camp", y.about(y.born(MAN, 120, MOTHER, FATHER), 6), 0);
    }

    private static void parentHasNone() {
        check.sentence(0, "none, if that parent has none");
        for (int by = BY_MOTHER; by <= BY_FATHER; by++) {
            SectionLand x = Check.land(Texts.still(2));
            x.camp(0, by);
            x.stranger(WOMAN, 100, 0, NONE);
            x.stranger(MAN, 100, 0, 1);
            x.stranger(WOMAN, 100, 0, 0);
            x.stranger(MAN, 100, 0, NONE);
            int motherless = x.born(MAN, 120, 0, 1);
            int fatherless = x.born(MAN, 120, 2, 3);
            int neither = x.born(MAN, 120, 0, 3);
            check.due("mother without", x.about(motherless, 6), by == BY_MOTHER ? NONE : 1);
            check.due("mother without, the other", x.about(motherless, 7), by == BY_MOTHER ? 1 : NONE);
            check.due("father without", x.about(fatherless, 6), by == BY_MOTHER ? 0 : NONE);
            check.due("father without, the other", x.about(fatherless, 7), by == BY_MOTHER ? NONE : 0);
            check.due("neither has one", x.about(neither, 6), NONE);
            check.due("neither has one, the other", x.about(neither, 7), NONE);
            check.due("without a class", x.count(7), 4);
        }
    }

    /** Of n classes at the parents' birth and m at the child's: the parent's class is the last of m, or one more. */
    private static void classThatTheSystemHasNot() {
        check.sentence(0, "or has one that this SYSTEM has not");
        for (int by = BY_MOTHER; by <= BY_FATHER; by++) {
            for (int m = 2; m <= 7; m++) {
                SectionLand x = Check.land(Texts.still(8), Texts.still(m));
                x.camp(0, by);
                x.law(0, 120, 1, by);
                x.stranger(WOMAN, 100, 0, m - 1);
                x.stranger(MAN, 100, 0, m);
                x.stranger(WOMAN, 100, 0, m);
                x.stranger(MAN, 100, 0, m - 1);
                int one = x.born(MAN, 120, 0, 1);
                int two = x.born(MAN, 120, 2, 3);
                check.due("mother's the last of " + m, x.about(one, 6), by == BY_MOTHER ? m - 1 : NONE);
                check.due("the other", x.about(one, 7), by == BY_MOTHER ? NONE : m - 1);
                check.due("mother's one more than " + m, x.about(two, 6), by == BY_MOTHER ? NONE : m - 1);
                check.due("the other", x.about(two, 7), by == BY_MOTHER ? m - 1 : NONE);
                check.due("a year earlier", x.about(x.born(MAN, 119, 0, 1), 6), by == BY_MOTHER ? m - 1 : m);
            }
        }
    }

    private static void quarrels() {
        check.sentence(0, "they QUARREL if both are there and unlike");
        SectionLand x = Check.land(Texts.still(2));
        x.camp(0, BY_MOTHER);
        x.stranger(WOMAN, 100, 0, 0);
        x.stranger(WOMAN, 100, 0, NONE);
        x.stranger(MAN, 100, 0, 0);
        x.stranger(MAN, 100, 0, 1);
        x.stranger(MAN, 100, 0, NONE);
        x.born(MAN, 120, 0, 2);
        check.row("strangers do not", 0, p -> x.about(p, 8), 0, 0, 0, 0, 0);
        check.due("alike", x.about(5, 8), 0);
        check.due("nobody yet", x.count(6), 0);
        check.due("unlike", x.about(x.born(MAN, 120, 0, 3), 8), 1);
        check.due("one", x.count(6), 1);
        check.due("the other is none", x.about(x.born(MAN, 120, 0, 4), 8), 0);
        check.due("the first is none", x.about(x.born(MAN, 120, 1, 3), 8), 0);
        check.due("both are none", x.about(x.born(MAN, 120, 1, 4), 8), 0);
        check.due("one still", x.count(6), 1);
        x.law(0, 120, 0, BY_FATHER);
        check.due("the other way about", x.about(6, 8), 1);
        check.due("one then", x.count(6), 1);
        check.due("without a class", x.count(7), 4);
    }

    private static void aboutArguments() {
        check.sentence(21, "-5: none such.");
        SectionLand x = pair();
        x.born(MAN, 120, MOTHER, FATHER);
        for (int p = 0; p < 3; p++) {
            int person = p;
            check.outside("what of " + p, 0, 8, -5, what -> x.about(person, what));
        }
        for (int what = 0; what <= 8; what++) {
            int asked = what;
            check.outside("person, what " + what, 0, 2, -5, p -> x.about(p, asked));
        }
        check.due("neither is there", x.about(3, 9), -5);
    }

    private static void aboutEach() {
        check.sentence(21, "Of one of PEOPLE what 0 SEX, 1 YEAR of birth, 2 of death (NONE), 3 CAMP, 4 mother (NONE), "
                + "5 father (NONE), 6 CLASS (NONE), 7 what the other of both would make it (of STRANGERS NONE), "
                + "8 whether they QUARREL (1, 0).");
        SectionLand x = pair();
        x.born(WOMAN, 120, MOTHER, FATHER);
        x.die(2, 121);
        check.row("mother", 0, what -> x.about(MOTHER, what), 1, 100, NONE, 0, NONE, NONE, 0, NONE, 0, -5);
        check.row("father", 0, what -> x.about(FATHER, what), 0, 100, NONE, 0, NONE, NONE, 1, NONE, 0, -5);
        check.row("child", 0, what -> x.about(2, what), 1, 120, 121, 0, MOTHER, FATHER, 0, 1, 1, -5);
    }

    private static void aboutNone() {
        check.sentence(21, "6 CLASS (NONE), 7 what the other of both would make it (of STRANGERS NONE)");
        SectionLand x = Check.land(Texts.still(2));
        x.camp(0, BY_MOTHER);
        x.stranger(WOMAN, 0, 0, NONE);
        x.stranger(MAN, 0, 0, NONE);
        x.born(MAN, 12, MOTHER, FATHER);
        check.row("class", 0, p -> x.about(p, 6), NONE, NONE, NONE, -5);
        check.row("the other", 0, p -> x.about(p, 7), NONE, NONE, NONE, -5);
        check.row("quarrel", 0, p -> x.about(p, 8), 0, 0, 0, -5);
    }

    private static void childrenByAYear() {
        check.sentence(23, "How many children of one had been born by a YEAR (that one, too).");
        SectionLand x = pair(0, 0);
        check.due("none yet", x.children(MOTHER, GREATEST), 0);
        x.born(MAN, 999, MOTHER, FATHER);
        x.born(WOMAN, 12, MOTHER, FATHER);
        x.born(WOMAN, 500, MOTHER, FATHER);
        x.born(WOMAN, 500, MOTHER, FATHER);
        int[] years = {LEAST, -1, 0, 11, 12, 13, 499, 500, 501, 998, 999, 1000, GREATEST};
        int[] born = {0, 0, 0, 0, 1, 1, 1, 3, 3, 3, 4, 4, 4};
        for (int i = 0; i < years.length; i++) {
            check.due("hers by " + years[i], x.children(MOTHER, years[i]), born[i]);
            check.due("his by " + years[i], x.children(FATHER, years[i]), born[i]);
        }
        x.die(3, 13);
        check.due("the dead had been born", x.children(MOTHER, 500), 3);
        x.die(MOTHER, 1000);
        check.due("the dead's, too", x.children(MOTHER, GREATEST), 4);
        check.due("a child's", x.children(2, GREATEST), 0);
    }

    private static void childrenArguments() {
        check.sentence(23, "NONE.");
        SectionLand x = pair();
        check.outside("person", 0, 1, NONE, p -> x.children(p, 500));
        check.outside("person, least year", 0, 1, NONE, p -> x.children(p, LEAST));
        x.stranger(WOMAN, 100, 0, 0);
        x.stranger(MAN, 100, 0, 0);
        x.born(MAN, 120, 2, FATHER);
        x.born(MAN, 120, MOTHER, FATHER);
        check.row("children", -1, p -> x.children(p, 120), NONE, 1, 2, 1, 0, 0, 0, NONE);
    }

    private static void livingArguments() {
        check.sentence(24, "(c -1: all; else of CLASS c, 0 .. 7). NONE.");
        SectionLand x = pair();
        check.outside("class", -1, 7, NONE, c -> x.living(0, 100, c));
        check.outside("camp", 0, 0, NONE, camp -> x.living(camp, 100, NONE));
        check.row("class", -2, c -> x.living(0, 100, c), NONE, 2, 1, 1, 0, 0, 0, 0, 0, 0, NONE);
    }

    private static void livingOfClasses() {
        check.sentence(24, "How many of a CAMP live in a YEAR");
        SectionLand x = Check.land(Texts.still(8), Texts.still(2));
        x.camp(0, BY_MOTHER);
        x.camp(0, BY_MOTHER);
        for (int c = -1; c < 8; c++) {
            x.stranger(MAN, 100, 0, c);
        }
        x.stranger(MAN, 100, 0, 7);
        x.stranger(MAN, 100, 1, 7);
        check.row("of each class", -1, c -> x.living(0, 100, c), 10, 1, 1, 1, 1, 1, 1, 1, 2, NONE);
        check.row("a year ahead", -1, c -> x.living(0, 99, c), 0, 0, 0, 0, 0, 0, 0, 0, 0, NONE);
        check.row("of the other camp", -1, c -> x.living(1, 100, c), 1, 0, 0, 0, 0, 0, 0, 0, 1, NONE);
        x.law(0, 100, 1, BY_MOTHER);
        check.due("told classes stay", x.living(0, 100, 7), 2);
        x.die(9, 101);
        check.due("to the year of death", x.living(0, 101, 7), 1);
    }
}
