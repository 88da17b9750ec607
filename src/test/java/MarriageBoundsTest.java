/** Promises 19, 20, 22 and 25, and what the terms say of MARRIAGES and MAY, at their bounds. */
public final class MarriageBoundsTest {
    private static final int NONE = SectionLand.NONE, BAD = SectionLand.BAD, STATE = SectionLand.STATE,
            FULL = SectionLand.FULL;
    private static final int MAN = 0, WOMAN = 1, BY_MOTHER = 0;
    private static final int LEAST = Integer.MIN_VALUE, GREATEST = Integer.MAX_VALUE;
    /** A man of class 0 and a woman of class 1, his WIFE's, and one of class 0. */
    private static final int HE = 0, SHE = 1, OTHER = 2;
    private static final Check check = new Check();

    public static void main(String[] args) {
        marryArguments();
        mayArguments();
        years();
        rightAndWrong();
        rightByHerCamp();
        rightByTheYear();
        classesThatTheSystemHasNot();
        hinderedByDeath();
        hinderedByMarriage();
        hinderedByKin();
        hinderedByClass();
        theFirstThatHinders();
        marryAndMay();
        fortyMarriages();
        lastsWhileBothLive();
        spouseArguments();
        spouseInAYear();
        marriagesArguments();
        marriagesInAYear();
        check.end("MarriageBoundsTest");
    }

    private static SectionLand three() {
        SectionLand x = Check.land(Texts.TWO);
        x.camp(0, BY_MOTHER);
        x.stranger(MAN, 100, 0, 0);
        x.stranger(WOMAN, 100, 0, 1);
        x.stranger(WOMAN, 100, 0, 0);
        return x;
    }

    private static void marryArguments() {
        check.sentence(19, "NONE; BAD: year, they are no man and woman;");
        check.outside("man", 0, 2, NONE, p -> three().marry(p, SHE, 120));
        check.outside("woman", 0, 2, NONE, p -> three().marry(HE, p, 120));
        check.row("man", -1, p -> three().marry(p, SHE, 120), NONE, 1, BAD, BAD, NONE);
        check.row("woman", -1, p -> three().marry(HE, p, 120), NONE, BAD, 1, 0, NONE);
        check.due("changed about", three().marry(SHE, HE, 120), BAD);
        SectionLand x = three();
        x.marry(SHE, HE, 120);
        x.marry(HE, HE, 120);
        x.marry(SHE, SHE, 120);
        x.marry(HE, 3, 120);
        check.due("none came", x.count(3), 0);
    }

    private static void mayArguments() {
        check.sentence(20, "NONE; BAD.");
        SectionLand x = three();
        check.outside("man", 0, 2, NONE, p -> x.may(p, SHE, 120));
        check.outside("woman", 0, 2, NONE, p -> x.may(HE, p, 120));
        check.outside("year", 0, 999, BAD, year -> x.may(HE, SHE, year));
        check.row("man", -1, p -> x.may(p, SHE, 120), NONE, 0, BAD, BAD, NONE);
        check.row("woman", -1, p -> x.may(HE, p, 120), NONE, BAD, 0, 5, NONE);
        check.due("changed about", x.may(SHE, HE, 120), BAD);
        check.due("none came", x.count(3), 0);
    }

    private static void years() {
        check.sentence(19, "BAD: year");
        check.outside("year", 0, 999, BAD, year -> three().marry(HE, SHE, year));
        check.due("year 0", three().marry(HE, SHE, 0), STATE);
        check.due("year 999", three().marry(HE, SHE, 999), 1);
        check.sentence(20, "What hinders a man and a woman in a YEAR (1 to 5); 0: they MAY.");
        check.due("year 0", three().may(HE, SHE, 0), 1);
        check.due("year 999", three().may(HE, SHE, 999), 0);
        SectionLand x = Check.land(Texts.TWO);
        x.camp(0, BY_MOTHER);
        x.stranger(MAN, 0, 0, 0);
        x.stranger(WOMAN, 0, 0, 1);
        x.age(0);
        check.due("born in 0, in 0", x.may(0, 1, 0), 0);
        check.due("marry in 0", x.marry(0, 1, 0), 1);
    }

    private static void rightAndWrong() {
        check.sentence(0, "It is RIGHT if both have CLASSES and hers is WIFE of his");
        for (int his = -1; his < 3; his++) {
            for (int hers = -1; hers < 3; hers++) {
                SectionLand x = Check.land(Texts.THREE);
                x.camp(0, BY_MOTHER);
                x.stranger(MAN, 100, 0, his);
                x.stranger(WOMAN, 100, 0, hers);
                boolean right = his >= 0 && hers == (his + 1) % 3;
                check.due("may " + his + " " + hers, x.may(0, 1, 120), right ? 0 : 5);
                check.due("marry " + his + " " + hers, x.marry(0, 1, 120), right ? 1 : 0);
                check.due("right " + his + " " + hers, x.marriages(120, 1), right ? 1 : 0);
                check.due("wrong " + his + " " + hers, x.marriages(120, 0), right ? 0 : 1);
            }
        }
    }

    /** In camp 0 one marries within the class, in camp 1 the other class. */
    private static void rightByHerCamp() {
        check.sentence(0, "by the law of her CAMP");
        for (int his = 0; his < 2; his++) {
            for (int hers = 0; hers < 2; hers++) {
                SectionLand x = Check.land(Texts.still(2), Texts.TWO);
                x.camp(0, BY_MOTHER);
                x.camp(1, BY_MOTHER);
                x.stranger(MAN, 100, his, 0);
                x.stranger(WOMAN, 100, hers, 0);
                check.due("may of camps " + his + " " + hers, x.may(0, 1, 120), hers == 0 ? 0 : 5);
                check.due("marry of camps " + his + " " + hers, x.marry(0, 1, 120), hers == 0 ? 1 : 0);
            }
        }
    }

    private static SectionLand changingLaw() {
        SectionLand x = Check.land(Texts.still(2), Texts.TWO);
        x.camp(0, BY_MOTHER);
        x.law(0, 200, 1, BY_MOTHER);
        x.stranger(MAN, 100, 0, 0);
        x.stranger(WOMAN, 100, 0, 1);
        x.stranger(WOMAN, 100, 0, 0);
        return x;
    }

    private static void rightByTheYear() {
        check.sentence(0, "by the law of her CAMP in that YEAR; else WRONG.");
        int[] years = {116, 199, 200, 201, 999};
        for (int year : years) {
            check.due("may in " + year, changingLaw().may(HE, SHE, year), year < 200 ? 5 : 0);
            check.due("may the other in " + year, changingLaw().may(HE, OTHER, year), year < 200 ? 0 : 5);
            check.due("marry in " + year, changingLaw().marry(HE, SHE, year), year < 200 ? 0 : 1);
            check.due("marry the other in " + year, changingLaw().marry(HE, OTHER, year), year < 200 ? 1 : 0);
        }
        SectionLand x = changingLaw();
        x.marry(HE, SHE, 199);
        check.due("wrong in 199", x.marriages(199, 0), 1);
        check.due("wrong in 200, as in its year", x.marriages(200, 0), 1);
        check.due("not right in 200", x.marriages(200, 1), 0);
    }

    /** Of system 1, in force from 200 on, only classes 0 and 1 are. */
    private static void classesThatTheSystemHasNot() {
        check.sentence(0, "It is RIGHT if both have CLASSES and hers is WIFE of his by the law of her CAMP in that YEAR");
        for (int c = 0; c < 8; c++) {
            SectionLand x = Check.land(Texts.still(8), Texts.still(2));
            x.camp(0, BY_MOTHER);
            x.law(0, 200, 1, BY_MOTHER);
            x.stranger(MAN, 100, 0, c);
            x.stranger(WOMAN, 100, 0, c);
            check.due("class " + c + " in 199", x.may(0, 1, 199), 0);
            check.due("class " + c + " in 200", x.may(0, 1, 200), c < 2 ? 0 : 5);
            check.due("marry of class " + c, x.marry(0, 1, 200), c < 2 ? 1 : 0);
        }
    }

    private static void hinderedByDeath() {
        check.sentence(0, "1 one does not live then");
        for (int p = HE; p <= SHE; p++) {
            SectionLand x = Check.land(Texts.TWO);
            x.camp(0, BY_MOTHER);
            x.stranger(MAN, p == HE ? 100 : 50, 0, 0);
            x.stranger(WOMAN, p == SHE ? 100 : 50, 0, 1);
            x.age(0);
            x.die(p, 200);
            check.due("ahead of birth of " + p, x.may(HE, SHE, 99), 1);
            check.due("at birth of " + p, x.may(HE, SHE, 100), 0);
            check.due("ahead of death of " + p, x.may(HE, SHE, 199), 0);
            check.due("at death of " + p, x.may(HE, SHE, 200), 1);
            check.due("behind death of " + p, x.may(HE, SHE, 201), 1);
            check.due("marry at death of " + p, x.marry(HE, SHE, 200), STATE);
            check.due("marry ahead of birth of " + p, x.marry(HE, SHE, 99), STATE);
            check.due("marry ahead of death of " + p, x.marry(HE, SHE, 199), 1);
        }
    }

    /** He is married to her from 150 to 179; another man and OTHER are free. */
    private static SectionLand oneMarriage() {
        SectionLand x = three();
        x.stranger(MAN, 100, 0, 1);
        x.marry(HE, SHE, 150);
        x.die(SHE, 180);
        return x;
    }

    private static void hinderedByMarriage() {
        check.sentence(0, "3 one is in a MARRIAGE that lasts");
        SectionLand x = oneMarriage();
        check.due("ahead of it", x.may(HE, OTHER, 149), 5);
        check.due("in its year", x.may(HE, OTHER, 150), 3);
        check.due("she, in its year", x.may(3, SHE, 150), 3);
        check.due("she, ahead of it", x.may(3, SHE, 149), 5);
        check.due("both, with one another", x.may(HE, SHE, 150), 3);
        check.due("in its last year", x.may(HE, OTHER, 179), 3);
        check.due("behind it", x.may(HE, OTHER, 180), 5);
        check.due("others are free", x.may(3, OTHER, 160), 0);
        check.due("marry in its year", x.marry(HE, OTHER, 150), STATE);
        check.due("marry in its last year", x.marry(HE, OTHER, 179), STATE);
        check.due("marry behind it", x.marry(HE, OTHER, 180), 0);
        check.due("two", x.count(3), 2);
    }

    private static void hinderedByKin() {
        check.sentence(0, "4 they are NEAR: one is the other's parent, or they have a parent in common");
        SectionLand x = Check.land(Texts.still(2));
        x.camp(0, BY_MOTHER);
        int mother = x.stranger(WOMAN, 100, 0, 0);
        int father = x.stranger(MAN, 100, 0, 0);
        int otherMother = x.stranger(WOMAN, 100, 0, 0);
        int otherFather = x.stranger(MAN, 100, 0, 0);
        int son = x.born(MAN, 120, mother, father);
        int daughter = x.born(WOMAN, 120, mother, father);
        int fathers = x.born(WOMAN, 120, otherMother, father);
        int mothers = x.born(WOMAN, 120, mother, otherFather);
        int neither = x.born(WOMAN, 120, otherMother, otherFather);
        int grandchild = x.born(WOMAN, 140, neither, son);
        check.due("mother and son", x.may(son, mother, 160), 4);
        check.due("father and daughter", x.may(father, daughter, 160), 4);
        check.due("brother and sister", x.may(son, daughter, 160), 4);
        check.due("of one father", x.may(son, fathers, 160), 4);
        check.due("of one mother", x.may(son, mothers, 160), 4);
        check.due("of no parent in common", x.may(son, neither, 160), 0);
        check.due("a step-mother", x.may(son, otherMother, 160), 0);
        check.due("grandfather", x.may(father, grandchild, 160), 0);
        check.due("father of a grandchild", x.may(son, grandchild, 160), 4);
        check.due("strangers", x.may(father, mother, 160), 0);
        check.due("marry the sister", x.marry(son, daughter, 160), STATE);
        check.due("marry the mother", x.marry(son, mother, 160), STATE);
        check.due("none came", x.count(3), 0);
    }

    private static void hinderedByClass() {
        check.sentence(0, "5 it would not be RIGHT");
        SectionLand x = three();
        x.stranger(WOMAN, 100, 0, NONE);
        check.row("she of classes 1, 0, none", SHE, p -> x.may(HE, p, 120), 0, 5, 5, NONE);
        check.sentence(19, "A MARRIAGE: 1 RIGHT, 0 WRONG.");
        check.due("5 hinders no marriage", x.marry(HE, OTHER, 120), 0);
        check.due("one", x.count(3), 1);
    }

    /** Each pair of hindrances at once. */
    private static void theFirstThatHinders() {
        check.sentence(0, "MAY a man and a woman marry in a YEAR: the first that hinders");
        SectionLand x = Check.land(Texts.TWO);
        x.camp(0, BY_MOTHER);
        int mother = x.stranger(WOMAN, 100, 0, 1);
        int father = x.stranger(MAN, 100, 0, 0);
        int son = x.born(MAN, 120, mother, father);
        int daughter = x.born(WOMAN, 120, mother, father);
        int unborn = x.stranger(WOMAN, 300, 0, 1);
        x.marry(father, mother, 116);
        check.due("1 ahead of 2", x.may(son, unborn, 121), 1);
        check.due("1 of her ahead of 2 of him", x.may(son, unborn, 130), 1);
        check.due("1 of her ahead of 3 of him", x.may(father, unborn, 130), 1);
        check.due("1 ahead of 4", x.may(father, daughter, 119), 1);
        check.due("1 ahead of 5", x.may(son, unborn, 140), 1);
        check.due("2 of her ahead of 3 of him", x.may(father, daughter, 130), 2);
        check.due("2 of him ahead of 3 of her", x.may(son, mother, 130), 2);
        check.due("2 ahead of 4", x.may(son, daughter, 130), 2);
        check.due("3 of him ahead of 4", x.may(father, daughter, 136), 3);
        check.due("3 of her ahead of 4", x.may(son, mother, 136), 3);
        check.due("4 ahead of 5", x.may(son, daughter, 136), 4);
        x.stranger(WOMAN, 130, 0, 0);
        check.due("2 ahead of 5", x.may(father, 5, 145), 2);
        check.due("3 ahead of 5", x.may(father, 5, 146), 3);
        x.die(mother, 150);
        check.due("1 of her, ahead of 4", x.may(son, mother, 150), 1);
        check.due("5 alone", x.may(father, 5, 150), 5);
        check.due("4 alone, with 5", x.may(son, daughter, 150), 4);
    }

    private static void marryAndMay() {
        check.sentence(19, "STATE: 1 to 4 hinders");
        SectionLand x = Check.land(Texts.TWO);
        x.camp(0, BY_MOTHER);
        int mother = x.stranger(WOMAN, 100, 0, 1);
        int father = x.stranger(MAN, 100, 0, 0);
        int son = x.born(MAN, 120, mother, father);
        int wife = x.stranger(WOMAN, 100, 0, 0);
        check.due("1", x.marry(son, wife, 119), STATE);
        check.due("2", x.marry(son, wife, 135), STATE);
        check.due("4", x.marry(son, mother, 136), STATE);
        check.due("none came", x.count(3), 0);
        check.due("0", x.marry(son, wife, 136), 1);
        check.due("3", x.marry(father, wife, 136), STATE);
        check.due("5", x.marry(father, x.stranger(WOMAN, 100, 0, NONE), 136), 0);
        check.due("two came", x.count(3), 2);
    }

    /** One man who has a wife each ten years up to the end of each. */
    private static void fortyMarriages() {
        check.sentence(19, "FULL: 40.");
        SectionLand x = Check.land(Texts.TWO);
        x.camp(0, BY_MOTHER);
        x.stranger(MAN, 0, 0, 0);
        x.stranger(MAN, 0, 0, 0);
        for (int i = 0; i < 40; i++) {
            int wife = x.stranger(WOMAN, 0, 0, 1);
            check.due("marriage " + i, x.marry(0, wife, 20 + 10 * i), 1);
            check.due("count", x.count(3), i + 1);
            x.die(wife, 30 + 10 * i);
        }
        int last = x.stranger(WOMAN, 0, 0, 1);
        int wrong = x.stranger(WOMAN, 0, 0, 0);
        check.due("a right one more", x.marry(1, last, 20), FULL);
        check.due("a wrong one more", x.marry(1, wrong, 999), FULL);
        check.due("forty", x.count(3), 40);
        check.due("they may still", x.may(1, last, 20), 0);
        check.due("no spouse", x.spouse(last, 20), NONE);
        check.due("the first", x.spouse(0, 20), 2);
        check.due("the fortieth", x.spouse(0, 419), 41);
        check.due("right ones in 410", x.marriages(410, 1), 1);
    }

    private static void lastsWhileBothLive() {
        check.sentence(0, "A MARRIAGE is of a man and a woman in a YEAR; it lasts while both live.");
        for (int dies = HE; dies <= SHE; dies++) {
            SectionLand x = three();
            x.marry(HE, SHE, 150);
            check.due("no death", x.spouse(HE, GREATEST), SHE);
            x.die(dies, 151);
            int[] years = {LEAST, -1, 0, 149, 150, 151, 152, 999, 1000, GREATEST};
            for (int year : years) {
                check.due("his in " + year, x.spouse(HE, year), year == 150 ? SHE : NONE);
                check.due("hers in " + year, x.spouse(SHE, year), year == 150 ? HE : NONE);
            }
            check.due("lasted in 150", x.marriages(150, 1), 1);
            check.due("not in 151", x.marriages(151, 1), 0);
            check.due("not in 149", x.marriages(149, 1), 0);
        }
        SectionLand x = three();
        x.marry(HE, SHE, 150);
        x.die(HE, 120);
        check.due("a death told later for an earlier year", x.spouse(SHE, 150), NONE);
        check.due("it is still counted", x.count(3), 1);
    }

    private static void spouseArguments() {
        check.sentence(22, "NONE: nobody; none such.");
        SectionLand x = oneMarriage();
        check.outside("person", 0, 3, NONE, p -> x.spouse(p, 150));
        check.row("in 150", -1, p -> x.spouse(p, 150), NONE, SHE, HE, NONE, NONE, NONE);
    }

    private static void spouseInAYear() {
        check.sentence(22, "Who is one's spouse in a YEAR.");
        SectionLand x = oneMarriage();
        x.marry(HE, OTHER, 180);
        check.due("least", x.spouse(HE, LEAST), NONE);
        check.row("his", 148, year -> x.spouse(HE, year), NONE, NONE, SHE, SHE);
        check.row("his", 178, year -> x.spouse(HE, year), SHE, SHE, OTHER, OTHER);
        check.row("the first's", 178, year -> x.spouse(SHE, year), HE, HE, NONE, NONE);
        check.row("the second's", 178, year -> x.spouse(OTHER, year), NONE, NONE, HE, HE);
        check.due("greatest", x.spouse(HE, GREATEST), OTHER);
    }

    private static void marriagesArguments() {
        check.sentence(25, "(right 1: RIGHT ones, 0: WRONG ones). BAD.");
        SectionLand x = oneMarriage();
        check.outside("right", 0, 1, BAD, right -> x.marriages(150, right));
        check.outside("year", 0, 999, BAD, year -> x.marriages(year, 1));
        check.outside("year, wrong ones", 0, 999, BAD, year -> x.marriages(year, 0));
        check.row("right", -1, right -> x.marriages(150, right), BAD, 0, 1, BAD);
        check.row("year", -1, year -> x.marriages(year, 1), BAD, 0, 0);
        check.row("year", 998, year -> x.marriages(year, 1), 0, 0, BAD);
    }

    private static void marriagesInAYear() {
        check.sentence(25, "How many MARRIAGES lasted in a YEAR");
        SectionLand x = oneMarriage();
        x.marry(HE, OTHER, 180);
        check.row("right ones", 148, year -> x.marriages(year, 1), 0, 0, 1, 1);
        check.row("right ones", 178, year -> x.marriages(year, 1), 1, 1, 0, 0);
        check.row("wrong ones", 178, year -> x.marriages(year, 0), 0, 0, 1, 1);
        check.due("wrong ones in 999", x.marriages(999, 0), 1);
    }
}
