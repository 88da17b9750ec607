/** "REFUSALS, of several the first one told": calls for which two of them hold. */
public final class RefusalOrderTest {
    private static final int NONE = SectionLand.NONE, BAD = SectionLand.BAD, STATE = SectionLand.STATE;
    private static final int MAN = 0, WOMAN = 1, BY_MOTHER = 0;
    private static final int LEAST = Integer.MIN_VALUE, GREATEST = Integer.MAX_VALUE;
    private static final Check check = new Check();

    public static void main(String[] args) {
        feeding();
        reading();
        ways();
        sets();
        camps();
        laws();
        strangers();
        births();
        birthsWhenFull();
        deaths();
        marriages();
        marriagesWhenFull();
        hindrances();
        matchings();
        overlays();
        check.end("RefusalOrderTest");
    }

    private static void order(int promise, String words) {
        check.sentence(0, "REFUSALS, of several the first one told: NONE");
        check.sentence(promise, words);
    }

    private static void feeding() {
        order(2, "BAD: n not 1 .. 8; FULL.");
        SectionLand x = new SectionLand();
        for (int i = 0; i < 60; i++) {
            x.feed(0, 1);
        }
        check.outside("BAD ahead of FULL", 1, 8, BAD, n -> x.feed(0, n));
        check.due("60 still", x.count(5), 60);
    }

    private static void reading() {
        order(3, "FULL: 4 are there (THE TAPE stays).");
        String[] faulty = {"", "?", "a+b=c;b+a=a", "a+b=b;a+a=a"};
        for (String text : faulty) {
            SectionLand x = Check.land(Texts.TWO, Texts.TWO, Texts.TWO, Texts.TWO);
            check.due("FULL ahead of a fault: " + text, Check.read(x, text), SectionLand.FULL);
            check.due("the tape stays", x.count(5), text.length());
            check.due("no fault", x.fault(0), 0);
        }
    }

    private static void ways() {
        order(8, "NONE; STATE: it leads to the other SEX.");
        SectionLand x = Check.land(Texts.TWO);
        check.due("STATE alone", x.home(0, MAN, 3), STATE);
        check.outside("no system, ahead of STATE", 0, 0, NONE, s -> x.home(s, MAN, 3));
        check.outside("no sex, ahead of STATE", 0, 1, NONE, sex -> x.home(0, sex, 3));
        check.due("no way, whose steps lead there", x.home(0, MAN, 03333333), NONE);
        order(9, "NONE; BAD.");
        check.outside("no system, steps 0", 0, 0, NONE, s -> x.brides(s, 0, 0));
        check.outside("no system, steps 5", 0, 0, NONE, s -> x.brides(s, 0, 5));
        check.outside("no class, steps 0", 0, 1, NONE, c -> x.brides(0, c, 0));
        check.outside("no class, steps 5", 0, 1, NONE, c -> x.brides(0, c, 5));
        check.outside("no class, least steps", 0, 1, NONE, c -> x.brides(0, c, LEAST));
    }

    private static void sets() {
        order(11, "NONE; BAD: a bit of no class, none, all.");
        SectionLand x = Check.land(Texts.TWO);
        int[] bad = {0, 3, 4, LEAST, GREATEST};
        for (int set : bad) {
            check.due("BAD alone " + set, x.half(0, set), BAD);
            check.outside("no system, set " + set, 0, 0, NONE, s -> x.half(s, set));
        }
        order(12, "NONE; BAD.");
        int[] bits = {-1, 8, LEAST, GREATEST};
        for (int b : bits) {
            check.due("BAD alone " + b, x.halves(0, b), BAD);
            check.outside("no system, bits " + b, 0, 0, NONE, s -> x.halves(s, b));
        }
    }

    private static SectionLand camps(int number) {
        SectionLand x = Check.land(Texts.TWO);
        for (int i = 0; i < number; i++) {
            x.camp(0, BY_MOTHER);
        }
        return x;
    }

    private static void camps() {
        order(13, "NONE; BAD: by not 0, 1; FULL.");
        int[] bad = {-1, 2, LEAST, GREATEST};
        for (int by : bad) {
            check.outside("no system, by " + by, 0, 0, NONE, s -> camps(0).camp(s, by));
            check.outside("no system, by " + by + ", full", 0, 0, NONE, s -> camps(3).camp(s, by));
            check.due("by " + by + ", full", camps(3).camp(0, by), BAD);
        }
        check.outside("no system, full", 0, 0, NONE, s -> camps(3).camp(s, 0));
    }

    private static void laws() {
        order(14, "NONE; BAD: year not 1 .. 999, by; FULL: 5.");
        SectionLand x = camps(1);
        for (int year = 1; year < 5; year++) {
            x.law(0, year, 0, 0);
        }
        int[] years = {0, 1000, LEAST, GREATEST};
        for (int year : years) {
            check.outside("no camp, year " + year, 0, 0, NONE, camp -> x.law(camp, year, 0, 0));
            check.outside("no system, year " + year, 0, 0, NONE, s -> x.law(0, year, s, 0));
            check.due("year " + year + ", full", x.law(0, year, 0, 0), BAD);
        }
        check.outside("no camp, by 2", 0, 0, NONE, camp -> x.law(camp, 9, 0, 2));
        check.outside("no system, by 2", 0, 0, NONE, s -> x.law(0, 9, s, 2));
        check.outside("no system, full", 0, 0, NONE, s -> x.law(0, 9, s, 0));
        check.outside("by, full", 0, 1, BAD, by -> x.law(0, 9, 0, by));
        check.due("FULL alone", x.law(0, 9, 0, 0), SectionLand.FULL);
    }

    private static SectionLand strangers(int number) {
        SectionLand x = camps(1);
        for (int i = 0; i < number; i++) {
            x.stranger(i % 2, 100, 0, i % 2);
        }
        return x;
    }

    private static void strangers() {
        order(15, "NONE: camp, sex, class (of the law of the YEAR); BAD: year; FULL.");
        SectionLand full = strangers(48);
        SectionLand room = strangers(47);
        int[] years = {-1, 1000, LEAST, GREATEST};
        for (int year : years) {
            check.outside("no camp, year " + year, 0, 0, NONE, camp -> room.stranger(MAN, year, camp, 0));
            check.outside("no sex, year " + year, 0, 1, NONE, sex -> room.stranger(sex, year, 0, 0));
            check.outside("no class, year " + year, -1, 1, NONE, c -> room.stranger(MAN, year, 0, c));
            check.due("year " + year + ", full", full.stranger(MAN, year, 0, 0), BAD);
        }
        check.outside("no camp, full", 0, 0, NONE, camp -> full.stranger(MAN, 100, camp, 0));
        check.outside("no sex, full", 0, 1, NONE, sex -> full.stranger(sex, 100, 0, 0));
        check.outside("no class, full", -1, 1, NONE, c -> full.stranger(MAN, 100, 0, c));
        check.due("all three", full.stranger(2, 1000, 0, 2), NONE);
    }

    private static void births() {
        order(16, "NONE: sex, mother, father; BAD: year, they are no woman and man; STATE:");
        SectionLand x = strangers(4);
        x.die(0, 110);
        x.die(1, 110);
        int[] years = {-1, 1000, LEAST, GREATEST};
        for (int year : years) {
            check.outside("no sex, year " + year, 0, 1, NONE, sex -> x.born(sex, year, 3, 2));
            check.outside("no mother, year " + year, 0, 3, NONE, p -> x.born(MAN, year, p, 2));
            check.outside("no father, year " + year, 0, 3, NONE, p -> x.born(MAN, year, 3, p));
            check.due("year " + year + ", the dead", x.born(MAN, year, 1, 0), BAD);
        }
        check.due("no father, a man as mother", x.born(MAN, 120, 2, 4), NONE);
        check.due("no mother, a woman as father", x.born(MAN, 120, 4, 3), NONE);
        check.due("no sex, changed about", x.born(2, 120, 2, 3), NONE);
        check.due("no sex, the dead", x.born(2, 120, 1, 0), NONE);
        check.due("no mother, a dead father", x.born(MAN, 120, 4, 0), NONE);
        check.due("no father, a dead mother", x.born(MAN, 120, 1, 4), NONE);
        check.due("changed about, the dead", x.born(MAN, 120, 0, 1), BAD);
        check.due("changed about, too young", x.born(MAN, 105, 2, 3), BAD);
        check.due("two women, one dead", x.born(MAN, 120, 1, 3), BAD);
        check.due("two men, one dead", x.born(MAN, 120, 2, 0), BAD);
    }

    private static void birthsWhenFull() {
        order(16, "or one was born less than 12 YEARS ahead; FULL.");
        SectionLand x = strangers(48);
        x.die(0, 110);
        x.die(1, 110);
        check.due("FULL alone", x.born(MAN, 120, 3, 2), SectionLand.FULL);
        check.due("no sex", x.born(2, 120, 3, 2), NONE);
        check.due("no mother", x.born(MAN, 120, 48, 2), NONE);
        check.due("no father", x.born(MAN, 120, 3, 48), NONE);
        check.due("year", x.born(MAN, 1000, 3, 2), BAD);
        check.due("changed about", x.born(MAN, 120, 2, 3), BAD);
        check.due("a dead mother", x.born(MAN, 120, 1, 2), STATE);
        check.due("a dead father", x.born(MAN, 120, 3, 0), STATE);
        check.due("too young", x.born(MAN, 111, 3, 2), STATE);
    }

    private static void deaths() {
        order(17, "NONE; BAD: year not above that of birth, or above 1000; STATE: there is such a YEAR.");
        SectionLand x = strangers(1);
        x.die(0, 110);
        int[] years = {100, 99, 1001, LEAST, GREATEST};
        for (int year : years) {
            check.outside("nobody, year " + year, 0, 0, NONE, p -> x.die(p, year));
            check.due("year " + year + ", one is told", x.die(0, year), BAD);
        }
        check.due("STATE alone", x.die(0, 110), STATE);
    }

    private static void marriages() {
        order(19, "NONE; BAD: year, they are no man and woman; STATE: 1 to 4 hinders;");
        SectionLand x = strangers(4);
        x.die(0, 110);
        x.die(1, 110);
        int[] years = {-1, 1000, LEAST, GREATEST};
        for (int year : years) {
            check.outside("no man, year " + year, 0, 3, NONE, p -> x.marry(p, 3, year));
            check.outside("no woman, year " + year, 0, 3, NONE, p -> x.marry(2, p, year));
            check.due("year " + year + ", the dead", x.marry(0, 1, year), BAD);
        }
        check.due("no man, a man as woman", x.marry(4, 2, 120), NONE);
        check.due("no woman, a woman as man", x.marry(3, 4, 120), NONE);
        check.due("no man, a dead woman", x.marry(4, 1, 120), NONE);
        check.due("no woman, a dead man", x.marry(0, 4, 120), NONE);
        check.due("changed about, the dead", x.marry(1, 0, 120), BAD);
        check.due("changed about, too young", x.marry(3, 2, 101), BAD);
        check.due("two men, one dead", x.marry(2, 0, 120), BAD);
        check.due("STATE alone", x.marry(0, 3, 120), STATE);
    }

    private static void marriagesWhenFull() {
        order(19, "STATE: 1 to 4 hinders; FULL: 40.");
        SectionLand x = camps(1);
        x.stranger(MAN, 0, 0, 0);
        x.stranger(MAN, 0, 0, 0);
        for (int i = 0; i < 40; i++) {
            x.marry(0, x.stranger(WOMAN, 0, 0, 1), 20 + i);
            x.die(2 + i, 21 + i);
        }
        int free = x.stranger(WOMAN, 0, 0, 1);
        int daughter = x.born(WOMAN, 30, free, 1);
        check.due("forty", x.count(3), 40);
        check.due("FULL alone", x.marry(1, free, 70), SectionLand.FULL);
        check.due("FULL, and 5 would hinder", x.marry(1, x.stranger(WOMAN, 0, 0, NONE), 70), SectionLand.FULL);
        check.due("no man", x.marry(48, free, 70), NONE);
        check.due("no woman", x.marry(1, 48, 70), NONE);
        check.due("year", x.marry(1, free, 1000), BAD);
        check.due("changed about", x.marry(free, 1, 70), BAD);
        check.due("1 hinders", x.marry(1, 2, 70), STATE);
        check.due("2 hinders", x.marry(1, free, 15), STATE);
        check.due("3 hinders", x.marry(0, free, 59), STATE);
        check.due("4 hinders", x.marry(1, daughter, 70), STATE);
        check.due("forty still", x.count(3), 40);
    }

    private static void hindrances() {
        order(20, "NONE; BAD.");
        SectionLand x = strangers(4);
        x.die(0, 110);
        int[] years = {-1, 1000, LEAST, GREATEST};
        for (int year : years) {
            check.outside("no man, year " + year, 0, 3, NONE, p -> x.may(p, 3, year));
            check.outside("no woman, year " + year, 0, 3, NONE, p -> x.may(2, p, year));
            check.due("year " + year + ", the dead", x.may(0, 1, year), BAD);
        }
        check.due("no man, a man as woman", x.may(4, 2, 120), NONE);
        check.due("no woman, a woman as man", x.may(3, 4, 120), NONE);
        check.due("changed about, the dead", x.may(1, 0, 120), BAD);
        check.due("BAD ahead of 1", x.may(3, 0, 120), BAD);
    }

    private static void matchings() {
        order(26, "NONE; BAD: year.");
        SectionLand x = strangers(2);
        int[] years = {-1, 1000, LEAST, GREATEST};
        for (int year : years) {
            check.outside("no camp, year " + year, 0, 0, NONE, camp -> x.match(camp, year));
        }
    }

    private static void overlays() {
        order(29, "NONE; STATE: unlike n.");
        SectionLand x = Check.land(Texts.TWO, Texts.THREE);
        check.due("STATE alone", x.lay(0, 1), STATE);
        for (int there = 0; there < 2; there++) {
            int s = there;
            check.outside("no first", 0, 1, NONE, first -> x.lay(first, s));
            check.outside("no second", 0, 1, NONE, second -> x.lay(s, second));
        }
        check.due("neither", x.lay(2, 2), NONE);
    }
}
