/** Promises 26 to 28 and what the terms say of THE MATCHING and THE LACK, at their bounds. */
public final class MatchingBoundsTest {
    private static final int NONE = SectionLand.NONE, BAD = SectionLand.BAD;
    private static final int MAN = 0, WOMAN = 1, BY_MOTHER = 0;
    /**
     * Mothers and fathers, out of the pairs 0 and 1, 2 and 3 .. of a family: the first man may marry the women 0
     * and 2, the second 1 and 3, all others 0 and 1, since they are near the others.
     */
    private static final int[][] MEN = {{0, 1}, {2, 3}, {4, 5}, {4, 5}, {4, 5}, {4, 5}};
    private static final int[][] WOMEN = {{6, 3}, {0, 7}, {4, 3}, {0, 5}};
    /** The men may marry the women 0 2 3, 2 4 5, 1 3, 0 1, 0 3 4 5. */
    private static final int[][] FIVE_MEN = {{4, 1}, {4, 5}, {6, 1}, {2, 3}, {4, 3}};
    private static final int[][] SIX_WOMEN = {{6, 5}, {4, 5}, {6, 3}, {2, 5}, {2, 1}, {2, 1}};
    private static final Check check = new Check();

    public static void main(String[] args) {
        matchArguments();
        matchYears();
        emptyAndFull();
        ofItsMenAndWomen();
        whoMayMarry();
        leastWoman();
        leastWomanWithTheGreatestNumber();
        leastWomanByChanges();
        lastNumbers();
        withNoWoman();
        matchedArguments();
        matchedAheadOfAny();
        matchedOfTheLatest();
        lackArguments();
        noLack();
        lackOfSome();
        lackAgainAndAgain();
        lackByChanges();
        lackOfTheLatest();
        check.end("MatchingBoundsTest");
    }

    /** All marry within the class; a camp or two. */
    private static SectionLand camps(int number) {
        SectionLand x = Check.land(Texts.still(2));
        for (int i = 0; i < number; i++) {
            x.camp(0, BY_MOTHER);
        }
        return x;
    }

    private static SectionLand people(int men, int women) {
        SectionLand x = camps(1);
        for (int i = 0; i < men; i++) {
            x.stranger(MAN, 100, 0, 0);
        }
        for (int i = 0; i < women; i++) {
            x.stranger(WOMAN, 100, 0, 0);
        }
        return x;
    }

    private static void matchArguments() {
        check.sentence(26, "How many couples THE MATCHING has. NONE; BAD: year.");
        for (int k = 0; k <= 3; k++) {
            SectionLand x = camps(k);
            check.outside("of " + k + " camps", 0, k - 1, NONE, camp -> x.match(camp, 120));
            for (int camp = 0; camp < k; camp++) {
                check.due("camp " + camp, x.match(camp, 120), 0);
            }
        }
        check.outside("year", 0, 999, BAD, year -> people(1, 1).match(0, year));
    }

    private static void matchYears() {
        check.sentence(26, "BAD: year.");
        SectionLand x = camps(1);
        x.age(0);
        x.stranger(MAN, 0, 0, 0);
        x.stranger(WOMAN, 0, 0, 0);
        check.row("year", -1, year -> x.match(0, year), BAD, 1, 1);
        check.row("year", 998, year -> x.match(0, year), 1, 1, BAD);
    }

    private static void emptyAndFull() {
        check.sentence(0, "as many couples as can be, nobody in two");
        for (int men = 0; men <= 4; men++) {
            for (int women = 0; women <= 4; women++) {
                SectionLand x = people(men, women);
                int couples = Math.min(men, women);
                check.due(men + " and " + women, x.match(0, 120), couples);
                for (int i = 0; i < men; i++) {
                    check.due("man " + i, x.matched(i), i < couples ? men + i : NONE);
                }
                for (int i = 0; i < women; i++) {
                    check.due("woman " + i, x.matched(men + i), i < couples ? i : NONE);
                }
            }
        }
        check.due("all men", people(48, 0).match(0, 120), 0);
        check.due("all women", people(0, 48).match(0, 120), 0);
        check.due("one woman", people(47, 1).match(0, 120), 1);
        check.due("one man", people(1, 47).match(0, 120), 1);
        SectionLand x = people(24, 24);
        check.due("half and half", x.match(0, 120), 24);
        check.row("each", 22, x::matched, 46, 47, 0, 1);
    }

    private static void ofItsMenAndWomen() {
        check.sentence(0, "THE MATCHING of a CAMP in a YEAR: of its men and women");
        SectionLand x = camps(3);
        x.stranger(MAN, 100, 0, 0);
        x.stranger(WOMAN, 100, 1, 0);
        x.stranger(WOMAN, 100, 2, 0);
        x.stranger(MAN, 100, 2, 0);
        check.row("camp", -1, camp -> x.match(camp, 120), NONE, 0, 0, 1, NONE);
        check.row("of the last camp", 0, x::matched, NONE, NONE, 3, 2, NONE);
    }

    private static void whoMayMarry() {
        check.sentence(0, "who MAY marry one another");
        SectionLand x = people(1, 1);
        check.row("AGE", 115, year -> x.match(0, year), 0, 1, 1);
        check.row("birth", 99, year -> x.match(0, year), 0, 0);
        x.marry(0, 1, 150);
        check.row("a marriage that lasts", 149, year -> x.match(0, year), 1, 0, 0);
        x.die(0, 200);
        check.row("and a death", 199, year -> x.match(0, year), 0, 0);
        check.due("ahead of it still", x.match(0, 149), 1);
        SectionLand y = people(1, 1);
        y.born(MAN, 120, 1, 0);
        y.born(WOMAN, 120, 1, 0);
        y.die(0, 130);
        y.die(1, 130);
        check.due("the near", y.match(0, 150), 0);
        SectionLand z = camps(1);
        z.stranger(MAN, 100, 0, 0);
        z.stranger(MAN, 100, 0, NONE);
        z.stranger(WOMAN, 100, 0, 1);
        z.stranger(WOMAN, 100, 0, NONE);
        check.due("not right", z.match(0, 120), 0);
    }

    private static void leastWoman() {
        check.sentence(0, "by men's numbers each gets the woman with the least number");
        SectionLand x = camps(1);
        int[] sexes = {WOMAN, MAN, WOMAN, MAN, MAN, WOMAN};
        for (int sex : sexes) {
            x.stranger(sex, 100, 0, 0);
        }
        check.due("three", x.match(0, 120), 3);
        check.row("each", 0, x::matched, 1, 0, 3, 2, 5, 4, NONE);
    }

    /** The brother may not marry his sister; the first man may marry both women. */
    private static void leastWomanWithTheGreatestNumber() {
        check.sentence(0, "with whom that greatest number can still be had");
        SectionLand x = camps(1);
        int mother = x.stranger(WOMAN, 100, 0, 0);
        int father = x.stranger(MAN, 100, 0, 0);
        int first = x.stranger(MAN, 120, 0, 0);
        int brother = x.born(MAN, 120, mother, father);
        int free = x.stranger(WOMAN, 120, 0, 0);
        int sister = x.born(WOMAN, 120, mother, father);
        x.die(mother, 130);
        x.die(father, 130);
        check.due("two", x.match(0, 140), 2);
        check.due("the first leaves the least", x.matched(first), sister);
        check.due("the brother needs her", x.matched(brother), free);
        x.die(sister, 150);
        check.due("one", x.match(0, 150), 1);
        check.due("the first has the least then", x.matched(first), free);
        check.due("the brother has none", x.matched(brother), NONE);
    }

    /** Four pairs who die in 130, some who are born in 999, then men and women of these mothers and fathers. */
    private static SectionLand family(int late, int[][] men, int[][] women, boolean womenFirst) {
        SectionLand x = camps(1);
        for (int p = 0; p < 8; p++) {
            x.stranger(p % 2 == 0 ? WOMAN : MAN, 100, 0, 0);
            x.die(p, 130);
        }
        for (int i = 0; i < late; i++) {
            x.stranger(WOMAN, 999, 0, 0);
        }
        bear(x, womenFirst ? WOMAN : MAN, womenFirst ? women : men);
        bear(x, womenFirst ? MAN : WOMAN, womenFirst ? men : women);
        return x;
    }

    private static void bear(SectionLand x, int sex, int[][] parents) {
        for (int[] pair : parents) {
            x.born(sex, 120, pair[0], pair[1]);
        }
    }

    private static SectionLand family(int late, int men, boolean womenFirst) {
        return family(late, java.util.Arrays.copyOf(MEN, men), WOMEN, womenFirst);
    }

    /** The women whom the men have, by the numbers of both from 0 on. */
    private static void couples(SectionLand x, int firstMan, int firstWoman, int... women) {
        int couples = 0;
        for (int woman : women) {
            couples += woman == NONE ? 0 : 1;
        }
        check.due("couples", x.match(0, 140), couples);
        for (int man = 0; man < women.length; man++) {
            int woman = women[man];
            check.due("of man " + man, x.matched(firstMan + man), woman == NONE ? NONE : firstWoman + woman);
            if (woman != NONE) {
                check.due("of woman " + woman, x.matched(firstWoman + woman), firstMan + man);
            }
        }
    }

    private static void leastWomanByChanges() {
        check.sentence(0, "each gets the woman with the least number with whom that greatest number can still be had");
        couples(family(0, 1, false), 8, 9, 0);
        couples(family(0, 2, false), 8, 10, 0, 1);
        couples(family(0, 3, false), 8, 11, 0, 3, 1);
        couples(family(0, 4, false), 8, 12, 2, 3, 0, 1);
        couples(family(0, 5, false), 8, 13, 2, 3, 0, 1, NONE);
        couples(family(0, 3, true), 12, 8, 0, 3, 1);
        couples(family(0, 4, true), 12, 8, 2, 3, 0, 1);
        couples(family(0, 6, true), 12, 8, 2, 3, 0, 1, NONE, NONE);
    }

    /** The last man or the last woman has the last number that there can be. */
    private static void lastNumbers() {
        check.sentence(0, "PEOPLE are numbered from 0 on, 48 at most");
        couples(family(33, 3, false), 41, 44, 0, 3, 1);
        couples(family(32, 4, false), 40, 44, 2, 3, 0, 1);
        couples(family(31, 5, false), 39, 44, 2, 3, 0, 1, NONE);
        couples(family(33, 3, true), 45, 41, 0, 3, 1);
        couples(family(32, 4, true), 44, 40, 2, 3, 0, 1);
        couples(family(35, 1, true), 47, 43, 0);
        couples(family(29, FIVE_MEN, SIX_WOMEN, true), 43, 37, 0, 2, 3, 1, 4);
        couples(family(29, FIVE_MEN, SIX_WOMEN, false), 37, 42, 0, 2, 3, 1, 4);
        SectionLand x = family(31, 5, true);
        couples(x, 43, 39, 2, 3, 0, 1, NONE);
        check.row("the last man lacks", 0, x::lack, 3, 2);
        check.due("all are there", x.count(2), 48);
    }

    private static void lackByChanges() {
        check.sentence(0, "(one less for each man without)");
        int[][] lacks = {{0, 0}, {0, 0}, {0, 0}, {0, 0}, {3, 2}, {4, 2}};
        for (int men = 1; men <= 6; men++) {
            SectionLand x = family(0, men, men % 2 == 0);
            x.match(0, 140);
            check.row("of " + men, 0, x::lack, lacks[men - 1]);
        }
        SectionLand x = camps(1);
        x.stranger(WOMAN, 100, 0, 0);
        x.stranger(MAN, 100, 0, 0);
        x.stranger(MAN, 100, 0, 0);
        x.match(0, 120);
        check.row("by woman 0", 0, x::lack, 2, 1);
    }

    private static void withNoWoman() {
        check.sentence(0, "or none, if it can be had without him, and with no woman");
        SectionLand x = people(3, 2);
        check.due("two", x.match(0, 120), 2);
        check.row("the last man has none", 0, x::matched, 3, 4, NONE, 0, 1, NONE);
        SectionLand y = people(2, 1);
        check.due("one", y.match(0, 120), 1);
        check.row("the first man has her", 0, y::matched, 2, NONE, 0, NONE);
    }

    private static void matchedArguments() {
        check.sentence(27, "NONE: nobody.");
        SectionLand x = people(1, 2);
        x.match(0, 120);
        check.outside("person", 0, 2, NONE, x::matched);
        check.row("person", -1, x::matched, NONE, 1, 0, NONE, NONE);
        x.stranger(MAN, 100, 0, 0);
        check.due("who came behind it", x.matched(3), NONE);
        SectionLand y = people(24, 24);
        y.match(0, 120);
        check.outside("person of 48", 0, 47, NONE, y::matched);
        check.due("the last", y.matched(47), 23);
    }

    private static void matchedAheadOfAny() {
        check.sentence(27, "the latest match() that was not refused");
        SectionLand x = people(1, 1);
        check.row("ahead of any", -1, x::matched, NONE, NONE, NONE, NONE);
        x.match(1, 120);
        x.match(0, -1);
        check.row("refused ones alone", -1, x::matched, NONE, NONE, NONE, NONE);
    }

    private static void matchedOfTheLatest() {
        check.sentence(27, "Whom one has in the latest match() that was not refused.");
        SectionLand x = people(1, 1);
        x.match(0, 120);
        x.match(1, 120);
        x.match(-1, 120);
        x.match(0, -1);
        x.match(0, 1000);
        check.row("refused ones behind it", 0, x::matched, 1, 0);
        x.marry(0, 1, 120);
        x.die(0, 130);
        x.age(40);
        check.row("what came behind it", 0, x::matched, 1, 0);
        check.due("none", x.match(0, 140), 0);
        check.row("the latest", 0, x::matched, NONE, NONE);
    }

    private static void lackArguments() {
        check.sentence(28, "what 0 how many men, 1 how many women (0, 0: there is none). NONE.");
        SectionLand x = people(2, 1);
        check.outside("ahead of any", 0, 1, NONE, x::lack);
        check.row("ahead of any", -1, x::lack, NONE, 0, 0, NONE);
        x.match(0, 120);
        check.outside("what", 0, 1, NONE, x::lack);
        check.row("what", -1, x::lack, NONE, 2, 1, NONE);
    }

    private static void noLack() {
        check.sentence(28, "(0, 0: there is none)");
        int[][] numbers = {{0, 0}, {0, 1}, {1, 0}, {1, 1}, {1, 2}, {2, 2}, {2, 3}, {48, 0}, {0, 48}, {24, 24}};
        for (int[] number : numbers) {
            SectionLand x = people(number[0], number[1]);
            x.match(0, 120);
            check.row(number[0] + " and " + number[1], 0, x::lack, 0, 0);
        }
    }

    private static void lackOfSome() {
        check.sentence(0, "if some of these men (that MAY marry some woman) have none in it");
        int[][] numbers = {{2, 1}, {3, 1}, {3, 2}, {47, 1}, {25, 23}};
        for (int[] number : numbers) {
            SectionLand x = people(number[0], number[1]);
            x.match(0, 120);
            check.row(number[0] + " and " + number[1], 0, x::lack, number[0], number[1]);
        }
        check.sentence(0, "(one less for each man without)");
        SectionLand x = people(3, 1);
        x.stranger(MAN, 100, 0, 1);
        x.stranger(MAN, 100, 0, 1);
        check.due("class 1 has no women", x.match(0, 120), 1);
        check.row("only who may marry some woman", 0, x::lack, 3, 1);
        x.stranger(WOMAN, 100, 0, 1);
        check.due("class 1 has one", x.match(0, 120), 2);
        check.row("both classes", 0, x::lack, 5, 2);
        x.stranger(WOMAN, 100, 0, 1);
        check.due("class 1 has two", x.match(0, 120), 3);
        check.row("class 0 alone", 0, x::lack, 3, 1);
    }

    /**
     * Sons of two pairs and daughters of both: each man may marry the women of the other pair alone, and a stranger
     * every woman: the found men lead on to others.
     */
    private static void lackAgainAndAgain() {
        check.sentence(0, "each such man, and then, again and again, each man whom a woman has in it whom some found man "
                + "MAY marry; and the women whom found men MAY marry");
        SectionLand x = camps(1);
        for (int pair = 0; pair < 2; pair++) {
            x.stranger(WOMAN, 100, 0, 0);
            x.stranger(MAN, 100, 0, 0);
        }
        int[] sons = {x.born(MAN, 120, 0, 1), x.born(MAN, 120, 0, 1), x.born(MAN, 120, 2, 3)};
        int ofFirst = x.born(WOMAN, 120, 0, 1);
        int ofSecond = x.born(WOMAN, 120, 2, 3);
        for (int p = 0; p < 4; p++) {
            x.die(p, 130);
        }
        check.due("two", x.match(0, 140), 2);
        check.due("the first son", x.matched(sons[0]), ofSecond);
        check.due("the second son has none", x.matched(sons[1]), NONE);
        check.due("the other pair's son", x.matched(sons[2]), ofFirst);
        check.row("his brother is found, the other pair's son is not", 0, x::lack, 2, 1);
        x.stranger(MAN, 120, 0, 0);
        check.due("still two", x.match(0, 140), 2);
        check.row("a stranger who may marry both finds all", 0, x::lack, 4, 2);
    }

    private static void lackOfTheLatest() {
        check.sentence(28, "Of THE LACK of the latest match()");
        SectionLand x = people(2, 1);
        x.match(0, 120);
        x.match(1, 120);
        x.match(0, 1000);
        x.stranger(WOMAN, 100, 0, 0);
        check.row("refused ones and people behind it", 0, x::lack, 2, 1);
        x.match(0, 120);
        check.row("the latest", 0, x::lack, 0, 0);
        x.die(2, 130);
        x.match(0, 130);
        check.row("later", 0, x::lack, 2, 1);
        x.match(0, 99);
        check.row("gone", 0, x::lack, 0, 0);
    }
}
