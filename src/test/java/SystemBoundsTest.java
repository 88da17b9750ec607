/** Promises 5 to 12 and what the terms say of classes, WAYS, THE GROUP and HALVES, at their bounds. */
public final class SystemBoundsTest {
    private static final int NONE = SectionLand.NONE, BAD = SectionLand.BAD, STATE = SectionLand.STATE;
    private static final int MAN = 0, WOMAN = 1;
    /** Ways are octal numbers, the first step the lowest digit. */
    private static final int SIX_STEPS = 0111111;
    /** wife 1 2 0, child of a woman's 0 2 1, child of a man's 2 1 0. */
    private static final String MIXED = "c+a=a;a+b=c;b+c=b";
    /** As many turnings as each text makes; none of 8 classes or less makes 721 to 1151 of them. */
    private static final String TURNINGS_1152 = "a+b=h;b+d=e;c+a=g;d+c=f;e+h=c;f+f=d;g+e=a;h+g=b";
    private static final String TURNINGS_1344 = "a+g=f;b+c=g;c+a=e;d+e=h;e+b=a;f+f=d;g+h=b;h+d=c";
    private static final Check check = new Check();

    public static void main(String[] args) {
        systemsThere();
        classesThere();
        tableWhats();
        tablesFitTogether();
        stepsOfWays();
        allWays();
        longWays();
        kinArguments();
        sexesOfWays();
        alikeArguments();
        alikeFromEachClass();
        homeArguments();
        homeOnce();
        homeLatest();
        homeOfTheOtherSex();
        bridesArguments();
        bridesByAllWays();
        groupSizes();
        halfArguments();
        halfBits();
        halvesArguments();
        halvesOfAllSets();
        check.end("SystemBoundsTest");
    }

    /** A land of so many systems of two classes. */
    private static SectionLand systems(int number) {
        String[] texts = new String[number];
        java.util.Arrays.fill(texts, Texts.TWO);
        return Check.land(texts);
    }

    private static void systemsThere() {
        check.sentence(0, "NONE there is no such SYSTEM");
        for (int k = 0; k <= 4; k++) {
            SectionLand x = systems(k);
            check.outside("table", 0, k - 1, NONE, s -> x.table(s, 0, 0));
            check.outside("kin", 0, k - 1, NONE, s -> x.kin(s, 0, MAN, 1));
            check.outside("alike", 0, k - 1, NONE, s -> x.alike(s, MAN, 1, 1));
            check.outside("home", 0, k - 1, NONE, s -> x.home(s, MAN, 1));
            check.outside("brides", 0, k - 1, NONE, s -> x.brides(s, 0, 1));
            check.outside("group", 0, k - 1, NONE, x::group);
            check.outside("half", 0, k - 1, NONE, s -> x.half(s, 1));
            check.outside("halves", 0, k - 1, NONE, s -> x.halves(s, 0));
            for (int s = 0; s < k; s++) {
                check.due("table " + s, x.table(s, 0, 0), 1);
                check.due("kin " + s, x.kin(s, 0, MAN, 1), 1);
                check.due("alike " + s, x.alike(s, MAN, 1, 1), 1);
                check.due("home " + s, x.home(s, MAN, 1), 2);
                check.due("brides " + s, x.brides(s, 0, 1), 2);
                check.due("group " + s, x.group(s), 2);
                check.due("half " + s, x.half(s, 1), 3);
                check.due("halves " + s, x.halves(s, 0), 1);
            }
        }
    }

    private static void classesThere() {
        check.sentence(0, "A SYSTEM has n CLASSES, 0 .. n - 1");
        for (int n = 2; n <= 8; n++) {
            SectionLand x = Check.land(Texts.turning(n, 1, 0));
            for (int what = 0; what <= 4; what++) {
                int asked = what;
                check.outside("table " + what, 0, n - 1, NONE, c -> x.table(0, c, asked));
            }
            check.outside("kin", 0, n - 1, NONE, c -> x.kin(0, c, MAN, 1));
            check.outside("brides", 0, n - 1, NONE, c -> x.brides(0, c, 1));
            check.due("wife of the last", x.table(0, n - 1, 0), 0);
            check.due("husband of the first", x.table(0, 0, 3), n - 1);
            check.due("kin of the last", x.kin(0, n - 1, MAN, 3), 0);
            check.due("brides of the last", x.brides(0, n - 1, 1), x.brides(0, 0, 1));
        }
    }

    private static void tableWhats() {
        check.sentence(5, "what 0 WIFE, 1 CHILD of a woman's, 2 CHILD of a man's, 3 husband (of whom it is the WIFE), "
                + "4 n. NONE.");
        SectionLand x = Check.land(MIXED);
        check.outside("table of 0", 0, 4, NONE, what -> x.table(0, 0, what));
        check.row("table of 0", 0, what -> x.table(0, 0, what), 1, 0, 2, 2, 3);
        check.row("table of 1", 0, what -> x.table(0, 1, what), 2, 2, 1, 0, 3);
        check.row("table of 2", 0, what -> x.table(0, 2, what), 0, 1, 0, 1, 3);
    }

    private static void tablesFitTogether() {
        check.sentence(0, "CHILD of a man's class is that of his WIFE's.");
        String[] texts = {Texts.TWO, Texts.THREE, Texts.FOUR, Texts.SIX, Texts.EIGHT, Texts.FIFTEEN, MIXED};
        for (String text : texts) {
            SectionLand x = Check.land(text);
            int n = x.table(0, 0, 4);
            for (int c = 0; c < n; c++) {
                check.due("of a man's", x.table(0, c, 2), x.table(0, x.table(0, c, 0), 1));
                check.due("husband of the wife", x.table(0, x.table(0, c, 0), 3), c);
                check.due("wife of the husband", x.table(0, x.table(0, c, 3), 0), c);
            }
        }
    }

    private static void stepsOfWays() {
        check.sentence(0, "1 father, 2 mother, 3 spouse, 4 son, 5 daughter (others: no WAY;");
        SectionLand x = Check.land(MIXED);
        check.row("a man's", 0, way -> x.kin(0, 0, MAN, way), NONE, 2, 0, 1, 2, 2, NONE, NONE, NONE);
        check.row("a woman's", 0, way -> x.kin(0, 1, WOMAN, way), NONE, 1, 2, 0, 2, 2, NONE, NONE, NONE);
        int[] digits = {0, 6, 7};
        for (int digit : digits) {
            for (int place = 0; place < 5; place++) {
                int way = SIX_STEPS & ~(7 << 3 * place) | digit << 3 * place;
                check.due("digit " + digit + " at " + place, x.kin(0, 0, MAN, way), NONE);
            }
        }
        check.due("digit 6, the highest", x.kin(0, 0, MAN, 0611111), NONE);
        check.due("digit 7, the highest", x.kin(0, 0, MAN, 0711111), NONE);
        check.sentence(0, "up to the last one that is not 0");
        check.due("five steps", x.kin(0, 0, MAN, 0011111), x.kin(0, 0, MAN, 011111));
        check.due("a 0 at the lowest", x.kin(0, 0, MAN, 0111110), NONE);
        check.due("only the highest", x.kin(0, 0, MAN, 0100000), NONE);
    }

    private static boolean isWay(int way) {
        return way > 0 && Integer.toOctalString(way).matches("[1-5]{1,6}");
    }

    private static void allWays() {
        check.sentence(0, "A WAY of kin is a number, read by digits to the base 8, the lowest first");
        SectionLand x = Check.land(Texts.TWO);
        int found = 0;
        for (int way = -600; way < 1 << 19; way++) {
            if (way % 400 == 0) {
                x = Check.land(Texts.TWO);
            }
            int got = x.kin(0, 0, MAN, way);
            found += got == NONE ? 0 : 1;
            check.due("is a way " + way, got == NONE ? 0 : 1, isWay(way) ? 1 : 0);
        }
        check.due("all of them", found, 5 + 25 + 125 + 625 + 3125 + 15625);
        SectionLand y = Check.land(MIXED);
        check.due("wife, then her son", y.kin(0, 0, MAN, 043), 2);
        check.due("son, then his wife", y.kin(0, 0, MAN, 034), 0);
    }

    private static void longWays() {
        check.sentence(0, "6 STEPS at most, 1 at least");
        SectionLand x = Check.land(Texts.TWO);
        int[] ways = {0, 01111111, 05555555, 011111111, 0111111111, 01111111111, 011111111111, 01000001,
            1 << 18, (1 << 18) + 1, 1 << 30, (1 << 30) + 1, Integer.MAX_VALUE, Integer.MAX_VALUE - 1,
            Integer.MIN_VALUE, Integer.MIN_VALUE + 1, -1, -2, -8, -SIX_STEPS};
        for (int way : ways) {
            check.due("kin " + way, x.kin(0, 0, MAN, way), NONE);
            check.due("alike " + way, x.alike(0, MAN, way, 1), NONE);
            check.due("alike to " + way, x.alike(0, MAN, 1, way), NONE);
            check.due("home " + way, x.home(0, MAN, way), NONE);
        }
        check.due("one step", x.kin(0, 0, MAN, 1), 1);
        check.due("six steps", x.kin(0, 0, MAN, SIX_STEPS), 0);
        check.due("six of the greatest", x.kin(0, 0, MAN, 0555555), 1);
        check.due("six alike", x.alike(0, MAN, SIX_STEPS, 011), 1);
        check.due("six home", x.home(0, MAN, SIX_STEPS), 1);
    }

    private static void kinArguments() {
        check.sentence(6, "The class to which a WAY leads from a class and a SEX. NONE.");
        SectionLand x = Check.land(Texts.FOUR, Texts.TWO);
        check.outside("system", 0, 1, NONE, s -> x.kin(s, 0, MAN, 1));
        check.outside("class of four", 0, 3, NONE, c -> x.kin(0, c, MAN, 1));
        check.outside("class of two", 0, 1, NONE, c -> x.kin(1, c, MAN, 1));
        check.outside("sex", 0, 1, NONE, sex -> x.kin(0, 0, sex, 1));
        check.row("father", 0, c -> x.kin(0, c, MAN, 1), 2, 3, 0, 1, NONE);
        check.row("mother", 0, c -> x.kin(0, c, MAN, 2), 3, 2, 1, 0, NONE);
    }

    private static void sexesOfWays() {
        check.sentence(0, "From a class and a SEX (0 man, 1 woman)");
        SectionLand x = Check.land(MIXED);
        check.row("spouse of 0", -1, sex -> x.kin(0, 0, sex, 3), NONE, 1, 2, NONE);
        check.row("son of 0", -1, sex -> x.kin(0, 0, sex, 4), NONE, 2, 0, NONE);
        check.row("daughter of 0", -1, sex -> x.kin(0, 0, sex, 5), NONE, 2, 0, NONE);
        check.row("alike", -1, sex -> x.alike(0, sex, 1, 1), NONE, 1, 1, NONE);
        check.row("home", -1, sex -> x.home(0, sex, 033), NONE, 1, 1, NONE);
    }

    private static void alikeArguments() {
        check.sentence(7, "Whether two WAYS lead from each class, for a SEX, to one class: 1, 0. NONE.");
        SectionLand x = Check.land(Texts.FOUR, Texts.TWO);
        check.outside("system", 0, 1, NONE, s -> x.alike(s, MAN, 1, 1));
        check.outside("sex", 0, 1, NONE, sex -> x.alike(0, sex, 1, 1));
        check.outside("way of one step", 1, 5, NONE, way -> x.alike(0, MAN, way, 1));
        check.outside("other of one step", 1, 5, NONE, way -> x.alike(0, MAN, 1, way));
        check.due("both no ways", x.alike(0, MAN, 6, 6), NONE);
        check.due("six steps and one", x.alike(0, MAN, SIX_STEPS, 1), 0);
    }

    /** Fathers: 0 of 0, 2 of 1, 1 of 2; wives: 1 of 0, 0 of 1, 2 of 2. */
    private static void alikeFromEachClass() {
        check.sentence(7, "from each class");
        SectionLand x = Check.land("a+b=a;b+a=c;c+c=b");
        check.due("father, five times", x.alike(0, MAN, 1, 011111), 1);
        check.due("father, himself: in the first class alone", x.alike(0, MAN, 1, 033), 0);
        check.due("himself, wife: in the last class alone", x.alike(0, MAN, 033, 03), 0);
        check.due("father, his wife's husband", x.alike(0, WOMAN, 1, 0331), 1);
        SectionLand y = Check.land("a+a=b;b+b=a;c+c=c");
        check.due("in one of three", y.alike(0, MAN, 4, 3), 0);
        check.due("in three", y.alike(0, MAN, 4, 1), 1);
    }

    private static void homeArguments() {
        check.sentence(8, "After how many times a WAY COMES HOME. NONE;");
        SectionLand x = Check.land(Texts.FOUR, Texts.TWO);
        check.outside("system", 0, 1, NONE, s -> x.home(s, MAN, 1));
        check.outside("sex", 0, 1, NONE, sex -> x.home(0, sex, 033));
        check.outside("way of one step", 1, 5, NONE, way -> x.home(0, MAN, way));
    }

    private static void homeOnce() {
        check.sentence(0, "the least number, 1 or more, so that it, gone so often one behind the other, leads from each "
                + "class to the class itself");
        SectionLand x = Check.land(Texts.still(2), Texts.TWO, "a+a=b;b+b=a;c+c=c");
        check.due("once", x.home(0, MAN, 1), 1);
        check.due("once for a woman", x.home(0, WOMAN, 2), 1);
        check.due("twice", x.home(1, MAN, 1), 2);
        check.due("twice, though one class is home at once", x.home(2, MAN, 4), 2);
        check.due("there and back", x.home(2, MAN, 014), 1);
    }

    private static void homeLatest() {
        check.sentence(0, "the least number, 1 or more");
        SectionLand x = Check.land(Texts.FIFTEEN, Texts.turning(8, 1, 1), Texts.turning(7, 1, 2), Texts.SIX);
        check.due("three and five", x.home(0, MAN, 4), 15);
        check.due("three and five, back", x.home(0, MAN, 1), 15);
        check.due("in six steps", x.home(0, MAN, 0444444), 5);
        check.due("eight", x.home(1, MAN, 4), 8);
        check.due("of a woman", x.home(1, WOMAN, 5), 1);
        check.due("seven", x.home(2, MAN, 4), 7);
        check.due("five, and one class at once", x.home(3, WOMAN, 034), 5);
    }

    private static void homeOfTheOtherSex() {
        check.sentence(8, "STATE: it leads to the other SEX.");
        SectionLand x = Check.land(Texts.still(2));
        int[] leadsTo = {NONE, MAN, WOMAN, NONE, MAN, WOMAN};
        for (int sex = MAN; sex <= WOMAN; sex++) {
            for (int way = 1; way <= 5; way++) {
                int to = way == 3 ? 1 - sex : leadsTo[way];
                check.due("home of " + sex + " by " + way, x.home(0, sex, way), to == sex ? 1 : STATE);
                int spouse = way + (3 << 3);
                check.due("and the spouse", x.home(0, sex, spouse), to == sex ? STATE : 1);
            }
        }
        check.due("six steps", x.home(0, MAN, 0533333), STATE);
        check.due("six steps of a woman", x.home(0, WOMAN, 0433333), STATE);
    }

    private static void bridesArguments() {
        check.sentence(9, "The WAYS of so many STEPS (1 .. 4)");
        SectionLand x = Check.land(Texts.FOUR, Texts.TWO);
        check.outside("steps", 1, 4, BAD, steps -> x.brides(0, 0, steps));
        check.outside("steps of the last class", 1, 4, BAD, steps -> x.brides(0, 3, steps));
        check.outside("class of four", 0, 3, NONE, c -> x.brides(0, c, 1));
        check.outside("class of two", 0, 1, NONE, c -> x.brides(1, c, 4));
        check.outside("system", 0, 1, NONE, s -> x.brides(s, 0, 1));
    }

    /** The sex to which a man's way leads. */
    private static int sexBehind(int way) {
        int sex = MAN;
        for (int left = way; left != 0; left /= 8) {
            int step = left % 8;
            sex = step == 3 ? 1 - sex : step == 2 || step == 5 ? WOMAN : MAN;
        }
        return sex;
    }

    private static int bridesByKin(String text, int c, int steps) {
        SectionLand x = Check.land(text);
        int wife = x.table(0, c, 0);
        int found = 0;
        for (int way = 1 << 3 * (steps - 1); way < 1 << 3 * steps; way++) {
            if (way % 400 == 0) {
                x = Check.land(text);
            }
            if (isWay(way) && sexBehind(way) == WOMAN && x.kin(0, c, MAN, way) == wife) {
                found++;
            }
        }
        return found;
    }

    private static void bridesByAllWays() {
        check.sentence(9, "that lead each man of a class to one whom he may marry (a woman of his WIFE's class): "
                + "how many");
        String[] texts = {Texts.TWO, Texts.FOUR, MIXED, Texts.EIGHT, Texts.FIFTEEN};
        for (String text : texts) {
            SectionLand x = Check.land(text);
            int last = x.table(0, 0, 4) - 1;
            for (int steps = 1; steps <= 4; steps++) {
                check.due(text + " first, steps " + steps, x.brides(0, 0, steps), bridesByKin(text, 0, steps));
                check.due(text + " last, steps " + steps, x.brides(0, last, steps), bridesByKin(text, last, steps));
            }
        }
        SectionLand x = Check.land(Texts.still(2));
        check.row("all are of one class", 1, steps -> x.brides(0, 0, steps), 3, 12, 63, 312);
    }

    private static void groupSizes() {
        check.sentence(0, "all ways to turn classes about that come of WIFE, CHILD of a woman's, CHILD of a man's class, "
                + "one behind the other (and none): how many.");
        for (int n = 2; n <= 8; n++) {
            check.due("nothing turns of " + n, Check.land(Texts.still(n)).group(0), 1);
            check.due("one turns all of " + n, Check.land(Texts.turning(n, 1, 1)).group(0), n);
        }
        check.due("only the child turns", Check.land(Texts.turning(5, 0, 1)).group(0), 5);
        check.due("both turn back", Check.land(Texts.turning(5, 1, 0)).group(0), 5);
        check.sentence(10, "How many THE GROUP has; 1000: 1000 or more. NONE.");
        SectionLand x = Check.land(Texts.SIX, TURNINGS_1152, TURNINGS_1344, Texts.EIGHT);
        check.row("720, 1152, 1344, 40320", 0, x::group, 720, 1000, 1000, 1000);
        check.row("again", 0, x::group, 720, 1000, 1000, 1000);
        check.outside("system", 0, 3, NONE, x::group);
    }

    private static void halfArguments() {
        check.sentence(11, "NONE; BAD: a bit of no class, none, all.");
        for (int n = 2; n <= 8; n++) {
            SectionLand x = Check.land(Texts.still(n));
            int all = (1 << n) - 1;
            check.outside("set of " + n, 1, all - 1, BAD, set -> x.half(0, set));
            check.due("the first alone", x.half(0, 1), 6);
            check.due("all but the first", x.half(0, all - 1), 6);
            for (int bit = n; bit < 32; bit++) {
                check.due("bit " + bit, x.half(0, 1 << bit), BAD);
                check.due("bit " + bit + " and a class", x.half(0, 1 << bit | 1), BAD);
            }
        }
        SectionLand x = Check.land(Texts.TWO);
        check.outside("system", 0, 0, NONE, s -> x.half(s, 1));
    }

    private static void halfBits() {
        check.sentence(0, "CROSSED, if each of it has its WIFE outside, and each outside has her in it");
        SectionLand x = Check.land(Texts.turning(3, 1, 1), Texts.turning(4, 1, 1), Texts.turning(4, 2, 2));
        check.due("one of three", x.half(0, 1) & 1, 0);
        check.due("two of three", x.half(0, 6) & 1, 0);
        check.due("every second of four", x.half(1, 5) & 1, 1);
        check.due("the others", x.half(1, 10) & 1, 1);
        check.due("the first two of four", x.half(1, 3) & 1, 0);
        check.due("the first two, by two", x.half(2, 3) & 1, 1);
        for (int alone = 0; alone < 3; alone++) {
            // One class marries within itself, the two others one another.
            int first = (alone + 1) % 3;
            int second = (alone + 2) % 3;
            SectionLand z = Check.land("" + Texts.letter(alone) + '+' + Texts.letter(alone) + "=a;" + Texts.letter(first)
                    + '+' + Texts.letter(second) + "=b;" + Texts.letter(second) + '+' + Texts.letter(first) + "=c");
            check.row("but for class " + alone, 1, set -> z.half(0, set) & 1, 0, 0, 0, 0, 0, 0);
        }
        check.sentence(0, "MOTHERS', if the CHILD of each woman of it is in it, and of each outside is outside");
        SectionLand y = Check.land("a+a=b;b+b=a;c+c=c;d+d=d", "a+c=b;b+d=a;c+a=c;d+b=d");
        check.row("sets", 1, set -> y.half(0, set) >> 1 & 1, 0, 0, 1, 1, 0, 0, 1, 1, 0, 0, 1, 1, 0, 0);
        check.sentence(0, "FATHERS' likewise of men.");
        check.row("sets", 1, set -> y.half(0, set) >> 2 & 1, 0, 0, 1, 1, 0, 0, 1, 1, 0, 0, 1, 1, 0, 0);
        check.row("men's", 1, set -> y.half(1, set) >> 2, 0, 0, 1, 1, 0, 0, 1, 1, 0, 0, 1, 1, 0, 0);
        check.row("women's", 1, set -> y.half(1, set) >> 1 & 1, 0, 0, 0, 0, 0, 0, 0, 0, 0, 0, 0, 0, 0, 0);
    }

    private static void halvesArguments() {
        check.sentence(12, "have all these bits (0 .. 7). NONE; BAD.");
        SectionLand x = Check.land(Texts.FOUR, Texts.still(2));
        check.outside("bits", 0, 7, BAD, bits -> x.halves(0, bits));
        check.outside("system", 0, 1, NONE, s -> x.halves(s, 0));
        check.row("bits of four", 0, bits -> x.halves(0, bits), 7, 2, 1, 1, 1, 1, 0, 0);
        check.row("bits of two that stay", 0, bits -> x.halves(1, bits), 1, 0, 1, 0, 1, 0, 1, 0);
    }

    private static int halvesByHalf(String text, int bits) {
        SectionLand x = Check.land(text);
        int found = 0;
        for (int set = 1; set < (1 << x.table(0, 0, 4)) - 1; set += 2) {
            found += (x.half(0, set) & bits) == bits ? 1 : 0;
        }
        return found;
    }

    private static void halvesOfAllSets() {
        check.sentence(12, "How many HALVES (with class 0) of a SYSTEM");
        for (int n = 2; n <= 8; n++) {
            SectionLand x = Check.land(Texts.still(n), Texts.turning(n, 1, 2));
            check.due("all of " + n, x.halves(0, 0), (1 << n - 1) - 1);
            check.due("mothers' and fathers' of " + n, x.halves(0, 6), (1 << n - 1) - 1);
            for (int bits = 0; bits <= 7; bits++) {
                check.due("bits " + bits, x.halves(1, bits), halvesByHalf(Texts.turning(n, 1, 2), bits));
            }
        }
    }
}
