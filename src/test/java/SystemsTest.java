/** Promises 1 to 12: the new object, the tape, systems, ways, the group, halves. */
public final class SystemsTest {
    private static final Check check = new Check();

    public static void main(String[] args) {
        newObject();
        feeding();
        reading();
        faults();
        tables();
        kinship();
        alikeWays();
        comingHome();
        bridesWays();
        groups();
        halfSets();
        check.end("SystemsTest");
    }

    private static void newObject() {
        SectionLand x = new SectionLand();
        for (int what = 0; what < 8; what++) {
            check.due("1 new: count " + what, x.count(what), what == 4 ? 16 : 0);
        }
        check.due("1 new: table", x.table(0, 0, 0), -1);
        check.due("1 new: camp", x.camp(0, 0), -1);
        check.due("1 new: about", x.about(0, 0), -5);
        check.due("1 new: stranger", x.stranger(0, 0, 0, -1), -1);
        check.due("1 new: matched", x.matched(0), -1);
        check.due("1 new: lack men", x.lack(0), 0);
        check.due("1 new: lack women", x.lack(1), 0);
        check.due("1 new: lies", x.lies(0), -1);
        check.due("1 new: sure", x.sure(), 0);
        check.due("1 new: marriages", x.marriages(0, 1), 0);
        check.due("4 new: kind", x.fault(0), 0);
        check.due("4 new: place", x.fault(1), -1);
    }

    private static void feeding() {
        SectionLand x = new SectionLand();
        check.due("2 n 0", x.feed(97, 0), -2);
        check.due("2 n 9", x.feed(97, 9), -2);
        check.due("2 n least", x.feed(97, Integer.MIN_VALUE), -2);
        check.due("2 n greatest", x.feed(97, Integer.MAX_VALUE), -2);
        check.due("2 the highest first", x.feed(0x612B623D623B622BL, 8), 8);
        check.due("2 the lowest bytes alone", x.feed(0x7777777777613D61L, 3), 11);
        check.due("2 the text read", x.system(), 0);
        check.due("2 wife", x.table(0, 0, 0), 1);
        for (int i = 1; i <= 7; i++) {
            check.due("2 size", x.feed(-1L, 8), 8 * i);
        }
        check.due("2 too many by one", x.feed(0, 5), -4);
        check.due("2 too many", x.feed(0, 8), -4);
        check.due("2 nothing changed", x.count(5), 56);
        check.due("2 sixty", x.feed(0, 4), 60);
        check.due("2 full", x.feed(0, 1), -4);
        check.due("2 BAD ahead of FULL", x.feed(0, 0), -2);
        check.due("2 a byte of 255 is no sign", x.system(), -11);
        check.due("2 at the first", x.fault(1), 0);
    }

    private static void reading() {
        SectionLand x = new SectionLand();
        check.due("3 first", Check.read(x, Texts.FOUR), 0);
        check.due("3 empty then", x.count(5), 0);
        check.due("3 longest", Check.read(x, Texts.EIGHT), 1);
        check.due("3 faulty", Check.read(x, "a+b=c"), -11);
        check.due("3 empty after a fault", x.count(5), 0);
        check.due("3 none came", x.count(0), 2);
        check.due("3 third", Check.read(x, Texts.TWO), 2);
        check.due("3 fourth", Check.read(x, Texts.THREE), 3);
        check.due("4 without fault", x.fault(0), 0);
        check.due("3 FULL", Check.read(x, Texts.TWO), -4);
        check.due("3 the tape stays", x.count(5), 11);
        check.due("3 FULL ahead of a fault", Check.read(x, "?"), -4);
        check.due("3 the tape stays too", x.count(5), 12);
        check.due("4 FULL is not told", x.fault(0), 0);
        check.due("3 four", x.count(0), 4);
    }

    private static void faults() {
        fault("", 1, 0);
        fault("a", 1, 1);
        fault("a+b=c", 1, 5);
        fault("a+b=c;", 1, 6);
        fault("a+b=b;b+a=", 1, 10);
        fault("a+b=b;b+a=a;", 1, 12);
        fault("a+b=b;b+a=a;c", 1, 13);
        fault("a+b=b,b+a=a", 1, 5);
        fault("a-b=b;b+a=a", 1, 1);
        fault("a+b+b;b+a=a", 1, 3);
        fault("a+b=b;;b+a=a", 1, 6);
        fault(" a+b=b;b+a=a", 1, 0);
        fault("a+b=b;b+A=a", 1, 8);
        fault("i+b=b;b+a=a", 1, 0);
        fault("a+b=b;b+a=`", 1, 10);
        fault("a+b=b;b+a=aa", 1, 11);
        fault(Texts.EIGHT + ";", 1, 47);
        fault(Texts.EIGHT + ";a+a=a", 1, 47);
        fault("h+h=h;h+h=?", 1, 10);
        fault("a+b=c;b+a=a", 2, 4);
        fault("a+b=b;b+a=h", 2, 10);
        fault("d+c=c;a+a=a", 2, 0);
        fault("a+a=a;a+a=c", 2, 10);
        fault("a+b=b;a+a=a", 3, 6);
        fault("a+b=b;b+b=b", 3, 8);
        fault("a+b=b;b+a=b", 3, 10);
        fault("a+b=c;b+c=a;c+a=a", 3, 16);
        fault("a+b=c;b+c=a;a+a=b", 3, 12);
        fault(Texts.EIGHT.substring(0, 42) + "h+h=h", 3, 44);
        fault("a+a=b;b+b=a", 0, -1);
        SectionLand x = Check.land(Texts.TWO);
        check.due("4 what 2", x.fault(2), -1);
        check.due("4 what -1", x.fault(-1), -1);
        Check.read(x, "x");
        check.due("4 kind", x.fault(0), 1);
        Check.read(x, Texts.TWO);
        check.due("4 gone with the next", x.fault(0), 0);
        check.due("4 its place, too", x.fault(1), -1);
    }

    private static void fault(String text, int kind, int place) {
        SectionLand x = new SectionLand();
        check.due("3 " + text, Check.read(x, text), kind == 0 ? 0 : -10 - kind);
        check.due("4 kind " + text, x.fault(0), kind);
        check.due("4 place " + text, x.fault(1), place);
        check.due("3 tape " + text, x.count(5), 0);
    }

    private static void row(SectionLand x, int system, int what, int... want) {
        for (int c = 0; c < want.length; c++) {
            check.due("5 table " + system + " " + c + " " + what, x.table(system, c, what), want[c]);
        }
    }

    private static void tables() {
        SectionLand x = Check.land(Texts.FOUR, "c+a=a;a+b=c;b+c=b");
        row(x, 0, 0, 1, 0, 3, 2);
        row(x, 0, 1, 3, 2, 1, 0);
        row(x, 0, 2, 2, 3, 0, 1);
        row(x, 0, 3, 1, 0, 3, 2);
        row(x, 0, 4, 4, 4, 4, 4, -1);
        row(x, 1, 0, 1, 2, 0);
        row(x, 1, 1, 0, 2, 1);
        row(x, 1, 2, 2, 1, 0);
        row(x, 1, 3, 2, 0, 1);
        row(x, 1, 4, 3, 3, 3, -1);
        check.due("5 system -1", x.table(-1, 0, 0), -1);
        check.due("5 system 2", x.table(2, 0, 0), -1);
        check.due("5 class -1", x.table(0, -1, 0), -1);
        check.due("5 class 4", x.table(0, 4, 0), -1);
        check.due("5 what 5", x.table(0, 0, 5), -1);
        check.due("5 what -1", x.table(0, 0, -1), -1);
        check.due("5 greatest", x.table(Integer.MAX_VALUE, 0, 0), -1);
        check.due("5 least class", x.table(0, Integer.MIN_VALUE, 0), -1);
    }

    private static void kinship() {
        SectionLand x = Check.land(Texts.FOUR, "c+a=a;a+b=c;b+c=b");
        // System 1: wife 1 2 0, child of a woman's 0 2 1, child of a man's 2 1 0.
        check.due("6 father of 0", x.kin(1, 0, 0, 1), 2);
        check.due("6 mother of 1", x.kin(1, 1, 0, 2), 2);
        check.due("6 wife of 1", x.kin(1, 1, 0, 3), 2);
        check.due("6 husband of 1", x.kin(1, 1, 1, 3), 0);
        check.due("6 son of a man of 0", x.kin(1, 0, 0, 4), 2);
        check.due("6 son of a woman of 0", x.kin(1, 0, 1, 4), 0);
        check.due("6 daughter of a man of 0", x.kin(1, 0, 0, 5), 2);
        check.due("6 daughter of a woman of 1", x.kin(1, 1, 1, 5), 2);
        check.due("6 the lowest digit first: wife, her son", x.kin(1, 0, 0, 043), 2);
        check.due("6 son, his wife", x.kin(1, 0, 0, 034), 0);
        check.due("6 six steps", x.kin(0, 0, 0, 0333333), 0);
        check.due("6 seven steps", x.kin(0, 0, 0, 03333333), -1);
        check.due("6 way 0", x.kin(0, 0, 0, 0), -1);
        check.due("6 way -1", x.kin(0, 0, 0, -1), -1);
        check.due("6 digit 6", x.kin(0, 0, 0, 061), -1);
        check.due("6 digit 7", x.kin(0, 0, 0, 7), -1);
        check.due("6 a 0 below", x.kin(0, 0, 0, 010), -1);
        check.due("6 a 0 between", x.kin(0, 0, 0, 0101), -1);
        check.due("6 sex 2", x.kin(0, 0, 2, 1), -1);
        check.due("6 sex -1", x.kin(0, 0, -1, 1), -1);
        check.due("6 class 3", x.kin(1, 3, 0, 1), -1);
        check.due("6 class -1", x.kin(1, -1, 0, 1), -1);
        check.due("6 system 2", x.kin(2, 0, 0, 1), -1);
        check.due("6 greatest way", x.kin(0, 0, 0, Integer.MAX_VALUE), -1);
        check.due("6 least way", x.kin(0, 0, 0, Integer.MIN_VALUE), -1);
    }

    private static void alikeWays() {
        SectionLand x = Check.land(Texts.FOUR, "c+a=a;a+b=c;b+c=b");
        check.due("7 one way", x.alike(0, 0, 1, 1), 1);
        check.due("7 father's father's son, father", x.alike(1, 1, 0411, 1), 1);
        check.due("7 sexes may be unlike", x.alike(0, 0, 023, 4), 1);
        check.due("7 unlike", x.alike(0, 0, 1, 2), 0);
        check.due("7 alike in 1 of 3", x.alike(1, 0, 4, 1), 1);
        check.due("7 unlike in some", x.alike(1, 1, 4, 3), 0);
        check.due("7 son as daughter", x.alike(1, 1, 4, 5), 1);
        check.due("7 no way", x.alike(0, 0, 6, 1), -1);
        check.due("7 no other", x.alike(0, 0, 1, 0), -1);
        check.due("7 sex", x.alike(0, 2, 1, 1), -1);
        check.due("7 system", x.alike(2, 0, 1, 1), -1);
        check.due("7 system -1", x.alike(-1, 0, 1, 1), -1);
    }

    private static void comingHome() {
        SectionLand x = Check.land(Texts.FIFTEEN, Texts.THREE, Texts.TWO);
        check.due("8 three and five", x.home(0, 0, 4), 15);
        check.due("8 at once", x.home(0, 1, 5), 1);
        check.due("8 there and back", x.home(0, 0, 033), 1);
        check.due("8 father", x.home(1, 0, 1), 3);
        check.due("8 mother", x.home(1, 1, 2), 3);
        check.due("8 of six steps", x.home(1, 0, 0111111), 1);
        check.due("8 two", x.home(2, 0, 4), 2);
        check.due("8 other sex", x.home(1, 0, 5), -3);
        check.due("8 other sex by spouse", x.home(1, 1, 3), -3);
        check.due("8 system", x.home(3, 0, 1), -1);
        check.due("8 sex", x.home(0, 3, 1), -1);
        check.due("8 way", x.home(0, 0, 0), -1);
        check.due("8 NONE ahead of STATE", x.home(0, 2, 5), -1);
    }

    private static void bridesWays() {
        SectionLand x = Check.land(Texts.FOUR, Texts.TWO, "a+b=b;b+c=c;c+a=a");
        check.due("9 spouse alone", x.brides(0, 0, 1), 1);
        check.due("9 of three", x.brides(0, 0, 3), 15);
        // Man of a, wife b: the mother is a, the daughter b.
        check.due("9 of two", x.brides(1, 0, 1), 2);
        // Man of c, wife a: the mother is c, the daughter a.
        check.due("9 wife's class is the daughter's", x.brides(2, 2, 1), 2);
        check.due("9 steps 0", x.brides(0, 0, 0), -2);
        check.due("9 steps 5", x.brides(0, 0, 5), -2);
        check.due("9 steps -1", x.brides(0, 0, -1), -2);
        check.due("9 class", x.brides(0, 4, 1), -1);
        check.due("9 class -1", x.brides(0, -1, 1), -1);
        check.due("9 system", x.brides(3, 0, 1), -1);
        check.due("9 NONE ahead of BAD", x.brides(0, 4, 0), -1);
    }

    private static void groups() {
        SectionLand x = Check.land(Texts.FOUR, Texts.SIX, Texts.EIGHT, Texts.FIFTEEN);
        check.due("10 four", x.group(0), 4);
        check.due("10 all of six", x.group(1), 720);
        check.due("10 1000 and more", x.group(2), 1000);
        check.due("10 turning", x.group(3), 15);
        check.due("10 again", x.group(1), 720);
        check.due("10 none", x.group(4), -1);
        check.due("10 -1", x.group(-1), -1);
        SectionLand y = Check.land("a+a=a;b+b=b", Texts.TWO, Texts.THREE);
        check.due("10 nothing turns", y.group(0), 1);
        check.due("10 two", y.group(1), 2);
        check.due("10 three", y.group(2), 3);
    }

    private static void halfSets() {
        SectionLand x = Check.land(Texts.FOUR, Texts.TWO, "a+a=a;b+b=b;c+c=c", Texts.THREE);
        check.due("11 {0 1}", x.half(0, 3), 0);
        check.due("11 {0 2}", x.half(0, 5), 5);
        check.due("11 {1 3}", x.half(0, 10), 5);
        check.due("11 {0 3}", x.half(0, 9), 3);
        check.due("11 {0}", x.half(0, 1), 0);
        check.due("11 two {0}", x.half(1, 1), 3);
        check.due("11 two {1}", x.half(1, 2), 3);
        check.due("11 still {1}", x.half(2, 2), 6);
        check.due("11 none", x.half(0, 0), -2);
        check.due("11 all", x.half(0, 15), -2);
        check.due("11 a bit of no class", x.half(0, 17), -2);
        check.due("11 below", x.half(0, -1), -2);
        check.due("11 least", x.half(0, Integer.MIN_VALUE), -2);
        check.due("11 system", x.half(4, 0), -1);
        check.due("12 all halves", x.halves(0, 0), 7);
        check.due("12 crossed", x.halves(0, 1), 2);
        check.due("12 mothers'", x.halves(0, 2), 1);
        check.due("12 fathers'", x.halves(0, 4), 1);
        check.due("12 crossed and fathers'", x.halves(0, 5), 1);
        check.due("12 all bits", x.halves(0, 7), 0);
        check.due("12 still", x.halves(2, 6), 3);
        check.due("12 three", x.halves(3, 1), 0);
        check.due("12 three, all", x.halves(3, 0), 3);
        check.due("12 bits 8", x.halves(0, 8), -2);
        check.due("12 bits -1", x.halves(0, -1), -2);
        check.due("12 system", x.halves(4, 8), -1);
    }
}
