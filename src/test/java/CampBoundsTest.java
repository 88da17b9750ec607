/** Promises 13 to 15, 17 and 18, and what the terms say of CAMPS, LAWS and YEARS, at their bounds. */
public final class CampBoundsTest {
    private static final int NONE = SectionLand.NONE, BAD = SectionLand.BAD, STATE = SectionLand.STATE,
            FULL = SectionLand.FULL;
    private static final int MAN = 0, WOMAN = 1, BY_MOTHER = 0, BY_FATHER = 1;
    private static final int LEAST = Integer.MIN_VALUE, GREATEST = Integer.MAX_VALUE;
    private static final Check check = new Check();

    public static void main(String[] args) {
        campNumbers();
        campArguments();
        campByWhom();
        lawArguments();
        lawYears();
        fiveLaws();
        inPlace();
        lawOfAYear();
        firstLawAheadOfIt();
        strangerArguments();
        strangerClasses();
        strangerYears();
        fortyEightPeople();
        livesFromTo();
        deathYears();
        deathTold();
        ages();
        ageAtFirst();
        check.end("CampBoundsTest");
    }

    /** Systems 0 to 3 have 2 to 5 classes, so that the greatest class told shows which law holds. */
    private static SectionLand systemsBySize() {
        return Check.land(Texts.still(2), Texts.still(3), Texts.still(4), Texts.still(5));
    }

    private static SectionLand oneCamp() {
        SectionLand x = Check.land(Texts.TWO);
        x.camp(0, BY_MOTHER);
        return x;
    }

    private static void campNumbers() {
        check.sentence(0, "CAMPS are numbered from 0 on, 3 at most.");
        SectionLand x = systemsBySize();
        for (int k = 0; k < 3; k++) {
            check.due("no law yet", x.law(k, 5, 0, 0), NONE);
            check.due("number", x.camp(k, k % 2), k);
            check.due("count", x.count(1), k + 1);
            int there = k;
            check.outside("living", 0, there, NONE, camp -> x.living(camp, 0, NONE));
            check.outside("match", 0, there, NONE, camp -> x.match(camp, 0));
        }
        check.sentence(13, "FULL.");
        for (int s = 0; s < 4; s++) {
            check.due("a fourth", x.camp(s, s % 2), FULL);
        }
        check.due("three", x.count(1), 3);
        check.due("no fourth", x.living(3, 0, NONE), NONE);
        check.due("the third is as it was", x.stranger(MAN, 0, 2, 3), 0);
        check.due("of four classes", x.stranger(MAN, 0, 2, 4), NONE);
    }

    private static void campArguments() {
        check.sentence(13, "A CAMP with its first law: its number. NONE; BAD: by not 0, 1; FULL.");
        for (int k = 0; k <= 4; k++) {
            int there = k;
            check.outside("of " + k + " systems", 0, k - 1, NONE, s -> firstSystems(there).camp(s, 0));
            for (int s = 0; s < k; s++) {
                check.due("system " + s, firstSystems(k).camp(s, 1), 0);
            }
        }
        check.outside("by", 0, 1, BAD, by -> firstSystems(1).camp(0, by));
        SectionLand x = firstSystems(1);
        check.outside("by", 0, 1, BAD, by -> x.camp(0, by));
        check.due("no camp came", x.count(1), 0);
        check.due("the first number is still 0", x.camp(0, 1), 0);
    }

    private static SectionLand firstSystems(int number) {
        SectionLand x = new SectionLand();
        for (int i = 0; i < number; i++) {
            Check.read(x, Texts.still(2 + i));
        }
        return x;
    }

    /** The mother is of class 0, the father of class 1: the child's class tells by whom it goes. */
    private static int childBy(SectionLand x, int year) {
        int mother = x.stranger(WOMAN, year - 20, 0, 0);
        int father = x.stranger(MAN, year - 20, 0, 1);
        return x.about(x.born(MAN, year, mother, father), 6);
    }

    private static void campByWhom() {
        check.sentence(0, "whether children are BY MOTHER (0) or BY FATHER (1)");
        for (int by = 0; by <= 1; by++) {
            SectionLand x = firstSystems(1);
            x.camp(0, by);
            x.law(0, 500, 0, 1 - by);
            check.due("by the first law", childBy(x, 499), by);
            check.due("by the second law", childBy(x, 500), 1 - by);
        }
    }

    private static SectionLand twoCamps() {
        SectionLand x = systemsBySize();
        x.camp(0, BY_MOTHER);
        x.camp(1, BY_FATHER);
        return x;
    }

    private static void lawArguments() {
        check.sentence(14, "NONE; BAD: year not 1 .. 999, by; FULL: 5.");
        check.outside("camp", 0, 1, NONE, camp -> twoCamps().law(camp, 5, 0, 0));
        check.outside("system", 0, 3, NONE, s -> twoCamps().law(0, 5, s, 0));
        check.outside("by", 0, 1, BAD, by -> twoCamps().law(0, 5, 0, by));
        check.row("camp", -1, camp -> twoCamps().law(camp, 5, 0, 0), NONE, 2, 2, NONE);
        check.row("system", -1, s -> twoCamps().law(1, 5, s, 0), NONE, 2, 2, 2, 2, NONE);
        check.row("by", -1, by -> twoCamps().law(0, 5, 0, by), BAD, 2, 2, BAD);
    }

    private static void lawYears() {
        check.sentence(14, "BAD: year not 1 .. 999");
        check.outside("year", 1, 999, BAD, year -> twoCamps().law(0, year, 3, 0));
        check.due("year 1", twoCamps().law(0, 1, 3, 0), 2);
        check.due("year 2", twoCamps().law(0, 2, 3, 0), 2);
        check.due("year 998", twoCamps().law(0, 998, 3, 0), 2);
        check.due("year 999", twoCamps().law(0, 999, 3, 0), 2);
        SectionLand x = twoCamps();
        x.law(0, 0, 3, 0);
        check.due("year 0 is not replaced", x.stranger(MAN, 0, 0, 2), NONE);
        x.law(0, 1000, 3, 0);
        check.due("there is no law from 1000 on", x.law(0, 999, 3, 0), 2);
    }

    private static void fiveLaws() {
        check.sentence(14, "how many laws");
        SectionLand x = twoCamps();
        for (int laws = 2; laws <= 5; laws++) {
            check.due("law " + laws, x.law(0, 100 * laws, 1, 0), laws);
        }
        check.sentence(14, "FULL: 5.");
        check.due("a sixth at the end", x.law(0, 999, 2, 0), FULL);
        check.due("a sixth ahead", x.law(0, 1, 2, 0), FULL);
        check.due("a sixth between", x.law(0, 250, 2, 0), FULL);
        check.due("year 999 has the law of 500", x.stranger(MAN, 999, 0, 3), NONE);
        check.due("year 1 has the first law", x.stranger(MAN, 1, 0, 2), NONE);
        check.due("the other camp has its own", x.law(1, 999, 2, 0), 2);
        for (int laws = 2; laws <= 5; laws++) {
            check.due("in place, though full, " + laws, x.law(0, 100 * laws, 3, 1), 5);
        }
    }

    private static void inPlace() {
        check.sentence(14, "(in place of one of that YEAR)");
        SectionLand x = twoCamps();
        check.due("second", x.law(0, 300, 1, 0), 2);
        check.due("one below it", x.law(0, 299, 2, 0), 3);
        check.due("one above it", x.law(0, 301, 2, 0), 4);
        check.due("in place", x.law(0, 300, 3, 1), 4);
        check.due("again", x.law(0, 300, 3, 0), 4);
        check.due("its classes", x.stranger(MAN, 300, 0, 4), 0);
        check.due("not those ahead", x.stranger(MAN, 299, 0, 4), NONE);
        check.due("not those behind", x.stranger(MAN, 301, 0, 4), NONE);
        check.due("the same year in the other camp", x.law(1, 300, 2, 0), 2);
    }

    private static void greatestClass(SectionLand x, int year, int greatest) {
        int people = x.count(2);
        check.due("the greatest class of " + year, x.stranger(MAN, year, 0, greatest), people);
        check.due("one more of " + year, x.stranger(MAN, year, 0, greatest + 1), NONE);
    }

    private static void lawOfAYear() {
        check.sentence(0, "the law of a YEAR is that with the greatest YEAR not above it");
        int[][] orders = {{1, 500, 999}, {999, 500, 1}, {500, 1, 999}, {999, 1, 500}, {1, 999, 500}, {500, 999, 1}};
        for (int[] order : orders) {
            SectionLand x = systemsBySize();
            x.camp(0, BY_MOTHER);
            for (int year : order) {
                x.law(0, year, year == 1 ? 1 : year == 500 ? 2 : 3, BY_MOTHER);
            }
            greatestClass(x, 0, 1);
            greatestClass(x, 1, 2);
            greatestClass(x, 2, 2);
            greatestClass(x, 499, 2);
            greatestClass(x, 500, 3);
            greatestClass(x, 501, 3);
            greatestClass(x, 998, 3);
            greatestClass(x, 999, 4);
        }
    }

    /** A YEAR that is BAD shows its law by which classes are told ahead of it to be none. */
    private static void firstLawAheadOfIt() {
        check.sentence(0, "(the first one holds ahead of it, too)");
        int[] ahead = {-1, -2, LEAST + 1, LEAST};
        int[] behind = {1000, 1001, GREATEST - 1, GREATEST};
        SectionLand x = systemsBySize();
        x.camp(2, BY_MOTHER);
        x.law(0, 1, 0, BY_MOTHER);
        x.law(0, 999, 1, BY_MOTHER);
        for (int year : ahead) {
            check.due("class 3 in " + year, x.stranger(MAN, year, 0, 3), BAD);
            check.due("class 4 in " + year, x.stranger(MAN, year, 0, 4), NONE);
        }
        for (int year : behind) {
            check.due("class 2 in " + year, x.stranger(MAN, year, 0, 2), BAD);
            check.due("class 3 in " + year, x.stranger(MAN, year, 0, 3), NONE);
        }
        check.due("nobody came", x.count(2), 0);
        check.due("class 3 in 0", x.stranger(MAN, 0, 0, 3), 0);
        check.due("class 2 in 1", x.stranger(MAN, 1, 0, 2), NONE);
    }

    private static void strangerArguments() {
        check.sentence(15, "NONE: camp, sex, class (of the law of the YEAR); BAD: year; FULL.");
        check.outside("camp", 0, 1, NONE, camp -> twoCamps().stranger(MAN, 5, camp, NONE));
        check.outside("sex", 0, 1, NONE, sex -> twoCamps().stranger(sex, 5, 0, NONE));
        check.outside("class", -1, 1, NONE, c -> twoCamps().stranger(MAN, 5, 0, c));
        check.outside("class of the other camp", -1, 2, NONE, c -> twoCamps().stranger(MAN, 5, 1, c));
        check.row("camp", -1, camp -> twoCamps().stranger(MAN, 5, camp, NONE), NONE, 0, 0, NONE);
        check.row("sex", -1, sex -> twoCamps().stranger(sex, 5, 0, NONE), NONE, 0, 0, NONE);
        check.row("class", -2, c -> twoCamps().stranger(MAN, 5, 0, c), NONE, 0, 0, 0, NONE);
    }

    private static void strangerClasses() {
        check.sentence(15, "A STRANGER (class -1: none told): its number.");
        SectionLand x = twoCamps();
        check.row("number", -1, c -> x.stranger(c & 1, 7, 1, c), 0, 1, 2, 3, NONE);
        check.row("class", 0, p -> x.about(p, 6), NONE, 0, 1, 2, -5);
        check.row("sex", 0, p -> x.about(p, 0), WOMAN, MAN, WOMAN, MAN, -5);
        check.sentence(0, "CLASS: of a STRANGER what was told (or none).");
        x.law(1, 7, 0, BY_MOTHER);
        check.row("class behind a law with fewer", 0, p -> x.about(p, 6), NONE, 0, 1, 2, -5);
        check.due("none of this law any more", x.stranger(MAN, 7, 1, 2), NONE);
        check.due("of that ahead", x.stranger(MAN, 6, 1, 2), 4);
        check.row("without a class", 7, x::count, 1);
    }

    private static void strangerYears() {
        check.sentence(0, "the YEAR of birth (0 .. 999)");
        check.outside("year", 0, 999, BAD, year -> twoCamps().stranger(MAN, year, 0, NONE));
        int[] years = {0, 1, 500, 998, 999};
        for (int year : years) {
            SectionLand x = twoCamps();
            check.due("number in " + year, x.stranger(MAN, year, 0, NONE), 0);
            check.due("birth in " + year, x.about(0, 1), year);
        }
        check.sentence(15, "BAD: year");
        SectionLand x = twoCamps();
        check.outside("year", 0, 999, BAD, year -> x.stranger(WOMAN, year, 1, 0));
        check.due("nobody came", x.count(2), 0);
        check.due("the first number", x.stranger(WOMAN, 0, 1, 0), 0);
    }

    private static void fortyEightPeople() {
        check.sentence(0, "PEOPLE are numbered from 0 on, 48 at most");
        SectionLand x = twoCamps();
        for (int p = 0; p < 48; p++) {
            check.due("not there yet", x.about(p, 0), -5);
            check.due("number", x.stranger(p & 1, p, p & 1, NONE), p);
            check.due("count", x.count(2), p + 1);
            check.due("birth", x.about(p, 1), p);
        }
        check.sentence(15, "FULL.");
        check.due("man", x.stranger(MAN, 0, 0, NONE), FULL);
        check.due("woman", x.stranger(WOMAN, 999, 1, 2), FULL);
        check.due("48", x.count(2), 48);
        check.due("no 49th", x.about(48, 0), -5);
        check.due("the last", x.about(47, 1), 47);
        check.due("one's death makes no room", x.die(0, 500), 0);
        check.due("still full", x.stranger(MAN, 0, 0, NONE), FULL);
        check.sentence(16, "FULL.");
        check.due("born", x.born(MAN, 100, 1, 2), FULL);
        check.due("no children", x.children(1, 999), 0);
    }

    private static void livesFromTo() {
        check.sentence(0, "One lives in a YEAR from that of birth on, up to that ahead of death.");
        int[][] lives = {{0, 1}, {0, 1000}, {100, 101}, {100, 150}, {999, 1000}};
        for (int[] life : lives) {
            SectionLand x = oneCamp();
            x.stranger(MAN, life[0], 0, 1);
            check.due("ahead of birth", x.living(0, life[0] - 1, NONE), 0);
            check.due("at birth", x.living(0, life[0], NONE), 1);
            check.due("no death told", x.living(0, GREATEST, NONE), 1);
            check.due("least", x.living(0, LEAST, NONE), 0);
            x.die(0, life[1]);
            check.due("ahead of birth still", x.living(0, life[0] - 1, 1), 0);
            check.due("at birth still", x.living(0, life[0], 1), 1);
            check.due("ahead of death", x.living(0, life[1] - 1, 1), 1);
            check.due("at death", x.living(0, life[1], 1), 0);
            check.due("behind it", x.living(0, life[1] + 1, 1), 0);
            check.due("greatest", x.living(0, GREATEST, 1), 0);
        }
    }

    private static SectionLand bornIn(int year) {
        SectionLand x = oneCamp();
        x.stranger(MAN, year, 0, 0);
        return x;
    }

    private static void deathYears() {
        check.sentence(17, "NONE; BAD: year not above that of birth, or above 1000");
        int[] births = {0, 1, 500, 998, 999};
        for (int birth : births) {
            check.outside("born in " + birth, birth + 1, 1000, BAD, year -> bornIn(birth).die(0, year));
            check.due("at once, of " + birth, bornIn(birth).die(0, birth + 1), 0);
            check.due("in 1000, of " + birth, bornIn(birth).die(0, 1000), 0);
            check.due("at birth, of " + birth, bornIn(birth).die(0, birth), BAD);
        }
        check.outside("person", 0, 0, NONE, p -> bornIn(5).die(p, 50));
        SectionLand x = bornIn(5);
        x.die(0, 5);
        x.die(0, 1001);
        x.die(1, 50);
        check.due("none told", x.about(0, 2), NONE);
        check.due("dies", x.die(0, 999), 0);
        check.due("in", x.about(0, 2), 999);
    }

    private static void deathTold() {
        check.sentence(17, "STATE: there is such a YEAR.");
        SectionLand x = bornIn(100);
        x.stranger(WOMAN, 100, 0, 0);
        check.due("first", x.die(0, 200), 0);
        check.due("the same year", x.die(0, 200), STATE);
        check.due("earlier", x.die(0, 101), STATE);
        check.due("later", x.die(0, 1000), STATE);
        check.due("as it was", x.about(0, 2), 200);
        check.due("the other", x.about(1, 2), NONE);
        check.due("the other dies", x.die(1, 101), 0);
    }

    private static void ages() {
        check.sentence(18, "AGE: what it was. BAD.");
        check.outside("age", 0, 40, BAD, years -> new SectionLand().age(years));
        SectionLand x = new SectionLand();
        check.due("0", x.age(0), 16);
        check.due("1", x.age(1), 0);
        check.due("39", x.age(39), 1);
        check.due("40", x.age(40), 39);
        check.outside("age", 0, 40, BAD, x::age);
        check.due("as it was", x.count(4), 40);
        check.due("40 again", x.age(40), 40);
    }

    private static void ageAtFirst() {
        check.sentence(0, "2 one is younger than AGE (0 .. 40 years; 16 at first)");
        int[] ages = {0, 1, 16, 39, 40};
        for (int age : ages) {
            for (int sex = MAN; sex <= WOMAN; sex++) {
                SectionLand x = oneCamp();
                x.stranger(MAN, sex == MAN ? 100 : 50, 0, 0);
                x.stranger(WOMAN, sex == MAN ? 50 : 100, 0, 1);
                if (age != 16) {
                    x.age(age);
                }
                check.due("younger than " + age, x.may(0, 1, 99 + age), age == 0 ? 1 : 2);
                check.due("of " + age, x.may(0, 1, 100 + age), 0);
                check.due("older than " + age, x.may(0, 1, 101 + age), 0);
                check.due("marry, younger", x.marry(0, 1, 99 + age), STATE);
                check.due("marry", x.marry(0, 1, 100 + age), 1);
            }
        }
    }
}
