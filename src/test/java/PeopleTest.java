/** Promises 13 to 25 and 33: camps, laws, people, marriages, counts. */
public final class PeopleTest {
    private static final Check check = new Check();

    public static void main(String[] args) {
        campsAndLaws();
        lawsByYear();
        strangers();
        births();
        classesOfChildren();
        deaths();
        ages();
        hindrances();
        weddings();
        laterLaws();
        aboutPeople();
        spouses();
        counts();
        manyPeople();
        manyWeddings();
        check.end("PeopleTest");
    }

    private static void campsAndLaws() {
        SectionLand x = Check.land(Texts.FOUR, Texts.TWO);
        check.due("13 system", x.camp(2, 0), -1);
        check.due("13 system -1", x.camp(-1, 2), -1);
        check.due("13 by 2", x.camp(0, 2), -2);
        check.due("13 by -1", x.camp(0, -1), -2);
        check.due("14 no camp yet", x.law(0, 10, 0, 0), -1);
        for (int i = 0; i < 3; i++) {
            check.due("13 camp", x.camp(i % 2, i % 2), i);
        }
        check.due("13 full", x.camp(0, 0), -4);
        check.due("13 BAD ahead of FULL", x.camp(0, 2), -2);
        check.due("13 three", x.count(1), 3);
        check.due("14 year 0", x.law(0, 0, 1, 0), -2);
        check.due("14 year 1000", x.law(0, 1000, 1, 0), -2);
        check.due("14 by 2", x.law(0, 10, 1, 2), -2);
        check.due("14 system 2", x.law(0, 10, 2, 0), -1);
        check.due("14 camp 3", x.law(3, 10, 0, 0), -1);
        check.due("14 NONE ahead of BAD", x.law(3, 0, 0, 5), -1);
        check.due("14 second", x.law(0, 999, 1, 0), 2);
        check.due("14 third", x.law(0, 1, 1, 1), 3);
        check.due("14 in place", x.law(0, 999, 0, 1), 3);
        check.due("14 fourth", x.law(0, 500, 1, 1), 4);
        check.due("14 fifth", x.law(0, 400, 0, 0), 5);
        check.due("14 full", x.law(0, 300, 0, 0), -4);
        check.due("14 in place though full", x.law(0, 400, 1, 0), 5);
        check.due("14 BAD ahead of FULL", x.law(0, 1000, 0, 0), -2);
        check.due("14 each camp has its own", x.law(1, 7, 0, 0), 2);
    }

    private static void lawsByYear() {
        SectionLand x = Check.land(Texts.FOUR, Texts.TWO, Texts.THREE);
        x.camp(0, 0);
        x.law(0, 200, 2, 0);
        x.law(0, 100, 1, 0);
        check.due("14 first law", x.stranger(0, 99, 0, 3), 0);
        check.due("14 from its year on", x.stranger(0, 100, 0, 2), -1);
        check.due("14 up to the next", x.stranger(0, 199, 0, 2), -1);
        check.due("14 of that", x.stranger(0, 199, 0, 1), 1);
        check.due("14 the next", x.stranger(0, 200, 0, 2), 2);
        check.due("14 the last", x.stranger(0, 999, 0, 3), -1);
        check.due("14 in place", x.law(0, 200, 0, 0), 3);
        check.due("14 replaced", x.stranger(0, 999, 0, 3), 3);
    }

    private static void strangers() {
        SectionLand x = Check.land(Texts.FOUR, Texts.TWO);
        x.camp(1, 0);
        check.due("15 camp", x.stranger(0, 0, 1, 0), -1);
        check.due("15 camp -1", x.stranger(0, 0, -1, 0), -1);
        check.due("15 sex", x.stranger(2, 0, 0, 0), -1);
        check.due("15 class", x.stranger(0, 0, 0, 2), -1);
        check.due("15 class -2", x.stranger(0, 0, 0, -2), -1);
        check.due("15 year -1", x.stranger(0, -1, 0, 0), -2);
        check.due("15 year 1000", x.stranger(0, 1000, 0, -1), -2);
        check.due("15 NONE ahead of BAD", x.stranger(0, 1000, 0, 2), -1);
        check.due("15 NONE ahead of BAD, sex", x.stranger(3, 1000, 0, 0), -1);
        check.due("15 nobody came", x.count(2), 0);
        check.due("15 first", x.stranger(1, 0, 0, -1), 0);
        check.due("15 second", x.stranger(0, 999, 0, 1), 1);
        check.due("15 no class", x.about(0, 6), -1);
        check.due("15 class told", x.about(1, 6), 1);
    }

    private static void births() {
        SectionLand x = Check.land(Texts.FOUR);
        x.camp(0, 0);
        x.camp(0, 0);
        int man = x.stranger(0, 100, 0, 0);
        int woman = x.stranger(1, 102, 1, 1);
        check.due("16 sex", x.born(2, 120, woman, man), -1);
        check.due("16 mother", x.born(0, 120, 2, man), -1);
        check.due("16 father", x.born(0, 120, woman, -1), -1);
        check.due("16 year -1", x.born(0, -1, woman, man), -2);
        check.due("16 year 1000", x.born(0, 1000, woman, man), -2);
        check.due("16 changed about", x.born(0, 120, man, woman), -2);
        check.due("16 two women", x.born(0, 120, woman, woman), -2);
        check.due("16 two men", x.born(0, 120, man, man), -2);
        check.due("16 NONE ahead of BAD", x.born(0, 1000, woman, 9), -1);
        check.due("16 BAD ahead of STATE", x.born(0, 50, man, woman), -2);
        check.due("16 mother of 11", x.born(0, 113, woman, man), -3);
        check.due("16 mother of 12", x.born(0, 114, woman, man), 2);
        check.due("16 of the mother's camp", x.about(2, 3), 1);
        int boy = x.stranger(0, 110, 0, 0);
        check.due("16 father of 11", x.born(0, 121, woman, boy), -3);
        check.due("16 father of 12", x.born(0, 122, woman, boy), 4);
        check.due("16 long before", x.born(0, 5, woman, man), -3);
        x.die(man, 130);
        check.due("16 the father died that year", x.born(1, 130, woman, man), 5);
        check.due("16 the father died the year before", x.born(1, 131, woman, man), -3);
        x.die(woman, 140);
        check.due("16 the mother lives", x.born(1, 139, woman, boy), 6);
        check.due("16 the mother died that year", x.born(1, 140, woman, boy), -3);
        check.due("16 before a death told", x.born(1, 125, woman, man), 7);
    }

    private static void classesOfChildren() {
        SectionLand x = Check.land(Texts.FOUR, Texts.TWO);
        x.camp(0, 0);
        x.camp(0, 1);
        int man = x.stranger(0, 100, 0, 0);
        int wife = x.stranger(1, 100, 0, 1);
        int wrongOne = x.stranger(1, 100, 0, 2);
        int there = x.stranger(1, 100, 1, 3);
        int nobody = x.stranger(1, 100, 0, -1);
        int right = x.born(0, 120, wife, man);
        check.due("21 by mother", x.about(right, 6), 2);
        check.due("21 by father, too", x.about(right, 7), 2);
        check.due("21 no quarrel", x.about(right, 8), 0);
        int wrong = x.born(0, 120, wrongOne, man);
        check.due("21 wrong by mother", x.about(wrong, 6), 1);
        check.due("21 the other", x.about(wrong, 7), 2);
        check.due("21 they quarrel", x.about(wrong, 8), 1);
        int far = x.born(0, 120, there, man);
        check.due("21 by father", x.about(far, 6), 2);
        check.due("21 the other is the mother's", x.about(far, 7), 0);
        check.due("21 they quarrel there", x.about(far, 8), 1);
        int half = x.born(0, 120, nobody, man);
        check.due("21 a mother without class", x.about(half, 6), -1);
        check.due("21 the other alone", x.about(half, 7), 2);
        check.due("21 no quarrel with none", x.about(half, 8), 0);
        check.due("33 quarrels", x.count(6), 2);
        check.due("33 classless", x.count(7), 2);
        x.law(0, 110, 1, 0);
        check.due("21 the law at birth", x.about(right, 6), 1);
        check.due("21 the mother's class is none there", x.about(wrong, 6), -1);
        check.due("21 the father's is one", x.about(wrong, 7), 1);
        check.due("21 no quarrel then", x.about(wrong, 8), 0);
        check.due("21 other camps keep theirs", x.about(far, 6), 2);
        int grandchild = x.born(1, 140, wife, wrong);
        check.due("21 the other has none", x.about(grandchild, 7), -1);
        x.law(0, 110, 0, 0);
        check.due("21 back again", x.about(wrong, 6), 1);
        check.due("21 and the grandchild", x.about(grandchild, 7), 3);
        check.due("21 grandchild by mother", x.about(grandchild, 6), 2);
        check.due("33 quarrels then", x.count(6), 3);
    }

    private static void deaths() {
        SectionLand x = Check.land(Texts.TWO);
        x.camp(0, 0);
        int p = x.stranger(0, 100, 0, 0);
        check.due("17 nobody", x.die(1, 200), -1);
        check.due("17 -1", x.die(-1, 200), -1);
        check.due("17 at birth", x.die(p, 100), -2);
        check.due("17 above 1000", x.die(p, 1001), -2);
        check.due("17 no year told yet", x.about(p, 2), -1);
        check.due("17 dies", x.die(p, 101), 0);
        check.due("17 year", x.about(p, 2), 101);
        check.due("17 again", x.die(p, 150), -3);
        check.due("17 BAD ahead of STATE", x.die(p, 100), -2);
        check.due("24 lives", x.living(0, 100, -1), 1);
        check.due("24 lives no more", x.living(0, 101, -1), 0);
        int old = x.stranger(0, 999, 0, 0);
        check.due("17 in 1000", x.die(old, 1000), 0);
    }

    private static void ages() {
        SectionLand x = Check.land(Texts.TWO);
        x.camp(0, 0);
        x.stranger(0, 100, 0, 0);
        x.stranger(1, 103, 0, 1);
        check.due("18 41", x.age(41), -2);
        check.due("18 -1", x.age(-1), -2);
        check.due("20 too young", x.may(0, 1, 118), 2);
        check.due("20 of 16", x.may(0, 1, 119), 0);
        check.due("18 was 16", x.age(40), 16);
        check.due("20 of 39", x.may(0, 1, 142), 2);
        check.due("20 of 40", x.may(0, 1, 143), 0);
        check.due("18 was 40", x.age(0), 40);
        check.due("20 of 0", x.may(0, 1, 103), 0);
        check.due("33 age", x.count(4), 0);
    }

    private static void hindrances() {
        SectionLand x = Check.land(Texts.FOUR);
        x.camp(0, 0);
        int father = x.stranger(0, 100, 0, 0);
        int mother = x.stranger(1, 100, 0, 1);
        check.due("20 nobody", x.may(2, mother, 120), -1);
        check.due("20 no woman", x.may(father, -1, 120), -1);
        check.due("20 year -1", x.may(father, mother, -1), -2);
        check.due("20 year 1000", x.may(father, mother, 1000), -2);
        check.due("20 changed about", x.may(mother, father, 120), -2);
        check.due("20 NONE ahead of BAD", x.may(2, mother, 1000), -1);
        check.due("20 unborn", x.may(father, mother, 99), 1);
        check.due("20 they may", x.may(father, mother, 116), 0);
        int son = x.born(0, 120, mother, father);
        int daughter = x.born(1, 121, mother, father);
        int other = x.stranger(1, 110, 0, 1);
        int half = x.born(1, 125, other, father);
        int uncle = x.stranger(0, 90, 0, 0);
        int halfSon = x.born(0, 126, mother, uncle);
        int cousin = x.born(1, 126, other, uncle);
        check.due("20 mother", x.may(son, mother, 140), 4);
        check.due("20 daughter", x.may(father, daughter, 140), 4);
        check.due("20 sister", x.may(son, daughter, 140), 4);
        check.due("20 by the father", x.may(son, half, 145), 4);
        check.due("20 by the mother", x.may(halfSon, daughter, 145), 4);
        check.due("20 no parent in common", x.may(son, cousin, 145), 5);
        check.due("20 strangers are not near", x.may(uncle, mother, 145), 0);
        check.due("20 not right", x.may(son, other, 145), 5);
        x.marry(uncle, other, 150);
        check.due("20 married", x.may(uncle, mother, 150), 3);
        check.due("20 married woman", x.may(father, other, 155), 3);
        check.due("20 not yet married", x.may(uncle, mother, 149), 0);
        x.die(father, 130);
        check.due("20 dead", x.may(father, mother, 130), 1);
        check.due("20 1 ahead of 2", x.may(father, daughter, 130), 1);
        check.due("20 2 ahead of 4", x.may(son, daughter, 130), 2);
        check.due("20 2 ahead of 3", x.may(uncle, x.stranger(1, 140, 0, 1), 151), 2);
        check.due("20 1 of her ahead of 3 of him", x.may(uncle, x.stranger(1, 200, 0, 1), 151), 1);
        x.marry(son, x.stranger(1, 100, 0, -1), 160);
        check.due("20 3 ahead of 4", x.may(son, daughter, 165), 3);
        x.die(other, 170);
        check.due("20 a widower", x.may(uncle, mother, 170), 0);
    }

    private static void weddings() {
        SectionLand x = Check.land(Texts.FOUR, Texts.TWO);
        x.camp(0, 0);
        x.camp(1, 0);
        int man = x.stranger(0, 100, 0, 0);
        int wife = x.stranger(1, 100, 0, 1);
        int wrong = x.stranger(1, 100, 0, 2);
        int far = x.stranger(1, 100, 1, 1);
        int three = x.stranger(0, 100, 0, 3);
        check.due("19 nobody", x.marry(9, wife, 120), -1);
        check.due("19 no woman", x.marry(man, 9, 120), -1);
        check.due("19 year", x.marry(man, wife, 1000), -2);
        check.due("19 changed about", x.marry(wife, man, 120), -2);
        check.due("19 two men", x.marry(man, three, 120), -2);
        check.due("19 unborn", x.marry(man, wife, 99), -3);
        check.due("19 too young", x.marry(man, wife, 115), -3);
        check.due("19 none came", x.count(3), 0);
        check.due("20 her camp's law", x.may(three, far, 120), 5);
        check.due("19 his class is none there", x.marry(three, far, 120), 0);
        check.due("19 right", x.marry(man, wife, 116), 1);
        check.due("19 married", x.marry(man, wrong, 116), -3);
        check.due("25 right", x.marriages(120, 1), 1);
        check.due("25 wrong", x.marriages(120, 0), 1);
        check.due("25 ahead of it", x.marriages(119, 0), 0);
        check.due("25 its year", x.marriages(116, 1), 1);
        check.due("25 ahead", x.marriages(115, 1), 0);
        check.due("25 year -1", x.marriages(-1, 1), -2);
        check.due("25 year 1000", x.marriages(1000, 1), -2);
        check.due("25 right 2", x.marriages(120, 2), -2);
        check.due("25 right -1", x.marriages(120, -1), -2);
        x.die(wife, 130);
        check.due("25 up to death", x.marriages(129, 1), 1);
        check.due("25 ended", x.marriages(130, 1), 0);
        check.due("19 again", x.marry(man, wrong, 130), 0);
        check.due("33 marriages", x.count(3), 3);
        int son = x.born(0, 120, wife, man);
        check.due("19 near", x.marry(son, x.born(1, 121, wife, man), 140), -3);
    }

    private static void laterLaws() {
        SectionLand x = Check.land(Texts.FOUR, "a+c=a;b+d=b;c+a=c;d+b=d");
        x.camp(0, 0);
        int man = x.stranger(0, 100, 0, 0);
        int wife = x.stranger(1, 100, 0, 1);
        check.due("19 right by the law of the year", x.marry(man, wife, 120), 1);
        x.law(0, 121, 1, 0);
        check.due("25 a later law", x.marriages(130, 1), 1);
        x.law(0, 119, 1, 0);
        check.due("25 a law of that year", x.marriages(130, 1), 0);
        check.due("25 wrong then", x.marriages(130, 0), 1);
    }

    private static void aboutPeople() {
        SectionLand x = Check.land(Texts.FOUR);
        x.camp(0, 0);
        x.camp(0, 1);
        x.stranger(0, 100, 0, 3);
        x.stranger(1, 101, 1, 2);
        x.born(1, 120, 1, 0);
        x.die(2, 160);
        int[][] want = {{0, 100, -1, 0, -1, -1, 3, -1, 0}, {1, 101, -1, 1, -1, -1, 2, -1, 0},
                {1, 120, 160, 1, 1, 0, 1, 1, 0}};
        for (int p = 0; p < 3; p++) {
            for (int what = 0; what < 9; what++) {
                check.due("21 about " + p + " " + what, x.about(p, what), want[p][what]);
            }
        }
        check.due("21 what 9", x.about(0, 9), -5);
        check.due("21 what -1", x.about(0, -1), -5);
        check.due("21 nobody", x.about(3, 0), -5);
        check.due("21 -1", x.about(-1, 0), -5);
        check.due("23 of a man", x.children(0, 120), 1);
        check.due("23 of a woman", x.children(1, 120), 1);
        check.due("23 ahead", x.children(1, 119), 0);
        check.due("23 the dead count", x.children(1, 999), 1);
        check.due("23 of none", x.children(2, 999), 0);
        check.due("23 nobody", x.children(3, 999), -1);
        check.due("23 -1", x.children(-1, 999), -1);
    }

    private static void spouses() {
        SectionLand x = Check.land(Texts.TWO);
        x.camp(0, 0);
        int man = x.stranger(0, 100, 0, 0);
        int first = x.stranger(1, 100, 0, 1);
        int second = x.stranger(1, 100, 0, 1);
        x.marry(man, first, 120);
        x.die(first, 130);
        x.marry(man, second, 130);
        check.due("22 ahead", x.spouse(man, 119), -1);
        check.due("22 first", x.spouse(man, 120), first);
        check.due("22 hers", x.spouse(first, 129), man);
        check.due("22 second", x.spouse(man, 130), second);
        check.due("22 the dead has none", x.spouse(first, 130), -1);
        check.due("22 hers, the second's", x.spouse(second, 999), man);
        check.due("22 nobody", x.spouse(3, 120), -1);
        check.due("22 -1", x.spouse(-1, 120), -1);
    }

    private static void counts() {
        SectionLand x = Check.land(Texts.TWO, Texts.FOUR);
        x.camp(0, 0);
        x.camp(1, 0);
        x.feed(7, 3);
        x.stranger(0, 100, 0, 0);
        x.stranger(1, 100, 0, 1);
        x.stranger(1, 100, 0, -1);
        x.stranger(1, 105, 1, 1);
        x.stranger(1, 105, 1, 3);
        x.marry(0, 1, 130);
        x.age(3);
        int[] want = {2, 2, 5, 1, 3, 3, 0, 1, -1};
        for (int what = 0; what < want.length; what++) {
            check.due("33 count " + what, x.count(what), want[what]);
        }
        check.due("33 what -1", x.count(-1), -1);
        check.due("24 all", x.living(0, 100, -1), 3);
        check.due("24 of class 1", x.living(0, 100, 1), 1);
        check.due("24 of a class that its law has not", x.living(0, 100, 7), 0);
        check.due("24 the other camp", x.living(1, 105, 3), 1);
        check.due("24 ahead", x.living(1, 104, -1), 0);
        check.due("24 class 8", x.living(0, 100, 8), -1);
        check.due("24 class -2", x.living(0, 100, -2), -1);
        check.due("24 camp 2", x.living(2, 100, -1), -1);
        check.due("24 camp -1", x.living(-1, 100, -1), -1);
    }

    private static void manyPeople() {
        SectionLand x = Check.land(Texts.TWO);
        x.camp(0, 0);
        x.stranger(0, 100, 0, 0);
        x.stranger(1, 100, 0, 1);
        for (int p = 2; p < 48; p++) {
            int got = p % 3 == 0 ? x.stranger(0, p, 0, -1) : x.born(0, 115 + p, 1, 0);
            check.due("15 number", got, p);
        }
        check.due("15 full", x.stranger(0, 1, 0, 0), -4);
        check.due("15 BAD ahead of FULL", x.stranger(0, -1, 0, 0), -2);
        check.due("16 full", x.born(0, 150, 1, 0), -4);
        check.due("16 STATE ahead of FULL", x.born(0, 100, 1, 0), -3);
        check.due("33 forty-eight", x.count(2), 48);
        check.due("23 many", x.children(1, 999), 31);
    }

    private static void manyWeddings() {
        SectionLand x = Check.land(Texts.TWO);
        x.camp(0, 0);
        int man = x.stranger(0, 0, 0, 0);
        int other = x.stranger(0, 0, 0, 0);
        for (int i = 0; i < 40; i++) {
            int woman = x.stranger(1, 0, 0, i % 2);
            check.due("19 number " + i, x.marry(man, woman, 20 + 10 * i), i % 2);
            x.die(woman, 25 + 10 * i);
        }
        int last = x.stranger(1, 0, 0, 1);
        check.due("19 full", x.marry(man, last, 600), -4);
        check.due("19 STATE ahead of FULL", x.marry(other, last, 3), -3);
        check.due("33 forty", x.count(3), 40);
        check.due("22 nobody came", x.spouse(man, 600), -1);
        check.due("22 the last", x.spouse(man, 410), 41);
    }
}
