/** Promises 26 to 28: matchings and the lack. */
public final class MatchingTest {
    private static final Check check = new Check();

    public static void main(String[] args) {
        refusals();
        leastWomen();
        aroundTheNear();
        manWithoutWhereLess();
        lacks();
        otherCamps();
        great();
        check.end("MatchingTest");
    }

    private static SectionLand twoClasses() {
        SectionLand x = Check.land(Texts.TWO);
        x.camp(0, 0);
        x.camp(0, 0);
        return x;
    }

    private static void refusals() {
        SectionLand x = twoClasses();
        int man = x.stranger(0, 0, 0, 0);
        int woman = x.stranger(1, 0, 0, 1);
        check.due("26 camp 2", x.match(2, 100), -1);
        check.due("26 camp -1", x.match(-1, 100), -1);
        check.due("26 year -1", x.match(0, -1), -2);
        check.due("26 year 1000", x.match(0, 1000), -2);
        check.due("26 NONE ahead of BAD", x.match(2, 1000), -1);
        check.due("27 none yet", x.matched(man), -1);
        check.due("26 too young", x.match(0, 15), 0);
        check.due("26 one", x.match(0, 16), 1);
        check.due("27 his", x.matched(man), woman);
        check.due("27 hers", x.matched(woman), man);
        x.match(0, 1000);
        x.match(3, 5);
        check.due("27 refusals change nothing", x.matched(man), woman);
        int late = x.stranger(1, 0, 0, 1);
        check.due("27 who came later", x.matched(late), -1);
        check.due("27 nobody", x.matched(9), -1);
        check.due("27 -1", x.matched(-1), -1);
        check.due("28 what 2", x.lack(2), -1);
        check.due("28 what -1", x.lack(-1), -1);
        x.die(man, 500);
        check.due("27 as it was", x.matched(man), woman);
        check.due("26 dead", x.match(0, 500), 0);
        check.due("27 the latest", x.matched(man), -1);
    }

    private static void leastWomen() {
        SectionLand x = twoClasses();
        int w0 = x.stranger(1, 0, 0, 1);
        int m1 = x.stranger(0, 0, 0, 0);
        int w2 = x.stranger(1, 0, 0, 1);
        int m3 = x.stranger(0, 0, 0, 0);
        int m4 = x.stranger(0, 0, 0, -1);
        check.due("26 two", x.match(0, 50), 2);
        check.due("27 least", x.matched(m1), w0);
        check.due("27 next", x.matched(m3), w2);
        check.due("27 without a class", x.matched(m4), -1);
        check.due("28 no lack", x.lack(0), 0);
        check.due("28 no lack of women", x.lack(1), 0);
        x.marry(m1, w0, 60);
        check.due("26 the married are out", x.match(0, 60), 1);
        check.due("27 she is next", x.matched(m3), w2);
        check.due("27 he is out", x.matched(m1), -1);
    }

    /** Men 2 and 3 share a mother with some of the women: man 3 may marry only woman 5. */
    private static void aroundTheNear() {
        SectionLand x = twoClasses();
        x.law(0, 20, 0, 1);
        int mother = x.stranger(1, 0, 0, 1);
        int father = x.stranger(0, 0, 0, 0);
        int free = x.stranger(0, 20, 0, 0);
        int uncle = x.stranger(0, 0, 0, 1);
        int bound = x.born(0, 20, mother, uncle);
        check.due("27 class of the bound", x.about(bound, 6), 0);
        int open = x.stranger(1, 20, 0, 1);
        int sister = x.born(1, 21, mother, father);
        check.due("27 class of the sister", x.about(sister, 6), 1);
        x.die(mother, 30);
        x.die(father, 30);
        x.die(uncle, 30);
        check.due("26 two", x.match(0, 50), 2);
        check.due("27 the first leaves the least to the second", x.matched(free), sister);
        check.due("27 the second has her", x.matched(bound), open);
        check.due("20 the first might", x.may(free, open, 50), 0);
    }

    private static void manWithoutWhereLess() {
        SectionLand x = twoClasses();
        for (int i = 0; i < 3; i++) {
            x.stranger(0, 0, 0, 0);
        }
        x.stranger(1, 0, 0, 1);
        x.stranger(1, 0, 0, 1);
        check.due("26 of three men two", x.match(0, 50), 2);
        check.due("27 first", x.matched(0), 3);
        check.due("27 second", x.matched(1), 4);
        check.due("27 third", x.matched(2), -1);
        check.due("28 men", x.lack(0), 3);
        check.due("28 women", x.lack(1), 2);
    }

    private static void lacks() {
        SectionLand x = Check.land(Texts.FOUR);
        x.camp(0, 0);
        // Class 0: two men, one woman; class 2: one man, two women; class 1: a man and no woman.
        x.stranger(0, 0, 0, 0);
        x.stranger(0, 0, 0, 2);
        x.stranger(0, 0, 0, 0);
        x.stranger(0, 0, 0, 1);
        x.stranger(1, 0, 0, 1);
        x.stranger(1, 0, 0, 3);
        x.stranger(1, 0, 0, 3);
        check.due("26 two", x.match(0, 50), 2);
        check.due("27 of 0", x.matched(0), 4);
        check.due("27 of 1", x.matched(1), 5);
        check.due("27 of 2", x.matched(2), -1);
        check.due("28 men of class 0 alone", x.lack(0), 2);
        check.due("28 women", x.lack(1), 1);
        x.match(0, 1000);
        check.due("28 refusals change nothing", x.lack(0), 2);
        check.due("26 nobody", x.match(0, 0), 0);
        check.due("28 gone", x.lack(0), 0);
        check.due("28 gone, women", x.lack(1), 0);
    }

    private static void otherCamps() {
        SectionLand x = twoClasses();
        x.stranger(0, 0, 0, 0);
        x.stranger(1, 0, 1, 1);
        check.due("26 she is not of the camp", x.match(0, 50), 0);
        check.due("26 he is not of the camp", x.match(1, 50), 0);
        check.due("28 who may marry nobody does not lack", x.lack(0), 0);
        check.due("20 yet they may", x.may(0, 1, 50), 0);
    }

    private static void great() {
        SectionLand x = twoClasses();
        for (int i = 0; i < 48; i++) {
            x.stranger(i % 2, 0, 0, i % 2);
        }
        check.due("26 all", x.match(0, 50), 24);
        for (int i = 0; i < 48; i++) {
            check.due("27 each", x.matched(i), i ^ 1);
        }
    }
}
