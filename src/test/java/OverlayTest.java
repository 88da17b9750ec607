/** Promises 29 to 32: systems laid on one another, gaps. */
public final class OverlayTest {
    private static final Check check = new Check();

    public static void main(String[] args) {
        laid();
        gapsInOneLine();
        narrowedByChildren();
        noFilling();
        toldAndLost();
        check.end("OverlayTest");
    }

    private static void laid() {
        SectionLand x = Check.land(Texts.FOUR, "c+a=b;a+c=d;b+d=c;d+b=a", "a+a=a;b+b=b;c+c=c;d+d=d",
                Texts.TWO);
        check.due("30 none yet", x.lies(0), -1);
        check.due("29 on itself", x.lay(0, 0), 8);
        for (int c = 0; c < 4; c++) {
            check.due("30 on itself", x.lies(c), c);
        }
        // FOUR by other names: wife 2 3 0 1, child of a woman's 1 0 3 2.
        check.due("29 by other names", x.lay(0, 1), 8);
        check.due("30 class 0", x.lies(0), 0);
        check.due("30 class 1", x.lies(1), 2);
        check.due("30 class 2", x.lies(2), 3);
        check.due("30 class 3", x.lies(3), 1);
        check.due("30 class 4", x.lies(4), -1);
        check.due("30 class -1", x.lies(-1), -1);
        check.due("29 unlike n", x.lay(0, 3), -3);
        check.due("29 first", x.lay(4, 0), -1);
        check.due("29 second", x.lay(0, -1), -1);
        check.due("30 refusals change nothing", x.lies(1), 2);
        check.due("29 nothing agrees", x.lay(0, 2), 0);
        check.due("30 then the least", x.lies(1), 1);
        check.due("29 of two", x.lay(3, 3), 4);
        check.due("30 of two", x.lies(1), 1);
        check.due("30 of two, class 2", x.lies(2), -1);
        SectionLand y = Check.land("a+b=a;b+a=b", "a+a=a;b+b=b", Texts.THREE, "a+c=b;b+a=c;c+b=a");
        check.due("29 nothing of both", y.lay(0, 1), 0);
        check.due("29 turned about", y.lay(2, 3), 6);
        check.due("30 turned about 1", y.lies(1), 2);
        check.due("30 turned about 2", y.lies(2), 1);
        SectionLand z = Check.land(Texts.EIGHT, Texts.FIFTEEN);
        check.due("29 eight", z.lay(0, 0), 16);
        check.due("30 eight", z.lies(7), 7);
    }

    private static void gapsInOneLine() {
        SectionLand x = Check.land(Texts.FOUR, Texts.TWO);
        x.camp(0, 0);
        check.due("31 nobody", x.open(0), -1);
        check.due("31 -1", x.open(-1), -1);
        int woman = x.stranger(1, 0, 0, -1);
        int man = x.stranger(0, 0, 0, 2);
        int child = x.born(1, 20, woman, man);
        int grandchild = x.born(1, 40, child, man);
        check.due("31 any", x.open(woman), 15);
        check.due("31 told", x.open(man), 4);
        check.due("31 child of any", x.open(child), 15);
        check.due("32 sure", x.sure(), 1);
        x.law(0, 40, 0, 1);
        check.due("31 by the father then", x.open(grandchild), 1);
        check.due("32 sure then", x.sure(), 2);
        x.law(0, 40, 1, 0);
        // The grandchild's law has two classes, so the child is of 0 or 1, the woman of 3 or 2.
        check.due("31 narrowed child", x.open(child), 3);
        check.due("31 narrowed woman", x.open(woman), 12);
        check.due("31 grandchild", x.open(grandchild), 3);
        check.due("32 sure of one", x.sure(), 1);
    }

    private static void narrowedByChildren() {
        SectionLand x = Check.land("a+a=a;b+b=b;c+d=c;d+c=d", "a+c=c;b+b=a;c+a=b", Texts.TWO);
        x.camp(0, 0);
        x.law(0, 20, 1, 0);
        x.law(0, 40, 2, 0);
        int woman = x.stranger(1, 0, 0, -1);
        int man = x.stranger(0, 0, 0, -1);
        int child = x.born(1, 20, woman, man);
        check.due("31 three of four", x.open(woman), 7);
        check.due("31 the man's is free", x.open(man), 15);
        check.due("31 three for the child", x.open(child), 7);
        int last = x.born(0, 40, child, man);
        // Child of a woman's by law 1: 0 to 1, 1 to 0, 2 to 2; the last wants the child in 0, 1.
        check.due("31 two", x.open(woman), 3);
        check.due("31 two of the child", x.open(child), 3);
        check.due("31 two of the last", x.open(last), 3);
        check.due("32 none sure", x.sure(), 0);
    }

    private static void noFilling() {
        SectionLand x = Check.land(Texts.FOUR, Texts.TWO);
        x.camp(0, 0);
        x.law(0, 20, 1, 0);
        check.due("32 nobody there", x.sure(), 0);
        int woman = x.stranger(1, 0, 0, 3);
        int man = x.stranger(0, 0, 0, 0);
        check.due("32 two", x.sure(), 2);
        int child = x.born(0, 20, woman, man);
        check.due("31 no filling", x.open(child), 0);
        check.due("31 for nobody", x.open(man), 0);
        check.due("31 nobody is NONE", x.open(3), -1);
        check.due("32 no filling", x.sure(), -5);
        x.law(0, 20, 1, 1);
        check.due("31 by the father there is", x.open(child), 2);
        check.due("32 three", x.sure(), 3);
    }

    /** A told class stays, even if the law of the year of birth is another later. */
    private static void toldAndLost() {
        SectionLand x = Check.land(Texts.FOUR, Texts.TWO);
        x.camp(0, 0);
        int told = x.stranger(0, 50, 0, 3);
        int untold = x.stranger(0, 50, 0, -1);
        x.law(0, 50, 1, 0);
        check.due("31 told", x.open(told), 8);
        check.due("31 untold", x.open(untold), 3);
        check.due("21 told", x.about(told, 6), 3);
        check.due("32 one", x.sure(), 1);
    }
}
