import java.util.ArrayList;
import java.util.List;
import java.util.function.ToIntFunction;

/**
 * "They change nothing.": behind a refused call all other calls answer as they do without it. A land is made twice,
 * one of them hears the refused call, and both are asked the same; what is asked is cut into parts, each on lands of
 * its own, so that none of them hears more than 512 calls.
 */
public final class RefusedCallsTest {
    private static final int NONE = SectionLand.NONE, BAD = SectionLand.BAD, STATE = SectionLand.STATE,
            FULL = SectionLand.FULL;
    private static final int MOST_CALLS = 512;
    private static final int MAN = 0, WOMAN = 1, BY_MOTHER = 0, BY_FATHER = 1;
    private static final int LEAST = Integer.MIN_VALUE, GREATEST = Integer.MAX_VALUE;
    private static final int[] YEARS = {-1, 0, 99, 100, 115, 119, 120, 136, 150, 160, 199, 200, 300, 420, 999, 1000};
    private static final Check check = new Check();

    /** A call and how it is told of. */
    private record Asked(String label, ToIntFunction<SectionLand> call) {
    }

    private final Scene scene;
    private final List<List<Asked>> parts = new ArrayList<>();
    private final List<int[]> answers = new ArrayList<>();

    private RefusedCallsTest(Scene scene, int people) {
        this.scene = scene;
        cut(systemQuestions());
        cut(peopleQuestions(people));
        cut(campQuestions(people));
        cut(deeds(people));
        for (List<Asked> part : parts) {
            answers.add(ask(scene.make(), part));
        }
    }

    public static void main(String[] args) {
        check.sentence(0, "They change nothing.");
        onNothing();
        onALand();
        onAFullLand();
        onANearlyFullTape();
        check.end("RefusedCallsTest");
    }

    private void cut(List<Asked> asked) {
        int room = MOST_CALLS - 1 - scene.size();
        for (int at = 0; at < asked.size(); at += room) {
            parts.add(asked.subList(at, Math.min(asked.size(), at + room)));
        }
    }

    private static int[] ask(SectionLand x, List<Asked> part) {
        int[] got = new int[part.size()];
        for (int i = 0; i < got.length; i++) {
            got[i] = part.get(i).call.applyAsInt(x);
        }
        return got;
    }

    /** The call is refused so, and changes no answer. */
    private void refuses(String label, int want, ToIntFunction<SectionLand> call) {
        for (int i = 0; i < parts.size(); i++) {
            SectionLand x = scene.make();
            check.due(label, call.applyAsInt(x), want);
            int[] got = ask(x, parts.get(i));
            for (int j = 0; j < got.length; j++) {
                check.due("behind " + label + ": " + parts.get(i).get(j).label, got[j], answers.get(i)[j]);
            }
        }
    }

    /** First what a latest call left, since later questions may change it. */
    private static List<Asked> systemQuestions() {
        List<Asked> asked = new ArrayList<>();
        for (int i = 0; i < 9; i++) {
            int c = i;
            asked.add(new Asked("lies " + c, x -> x.lies(c)));
            asked.add(new Asked("fault " + c, x -> x.fault(c)));
            asked.add(new Asked("lack " + c, x -> x.lack(c)));
            asked.add(new Asked("count " + c, x -> x.count(c)));
        }
        for (int i = 0; i < 4; i++) {
            int s = i;
            for (int j = 0; j < 8 * 5; j++) {
                int c = j / 5;
                int what = j % 5;
                asked.add(new Asked("table " + s + " " + c + " " + what, x -> x.table(s, c, what)));
            }
            asked.add(new Asked("group " + s, x -> x.group(s)));
            asked.add(new Asked("half " + s, x -> x.half(s, 1)));
            asked.add(new Asked("halves " + s, x -> x.halves(s, 0)));
            asked.add(new Asked("brides " + s, x -> x.brides(s, 1, 3)));
            asked.add(new Asked("home " + s, x -> x.home(s, WOMAN, 02)));
            asked.add(new Asked("alike " + s, x -> x.alike(s, MAN, 023, 04)));
            asked.add(new Asked("kin " + s, x -> x.kin(s, 1, MAN, 012345)));
        }
        return asked;
    }

    private static List<Asked> peopleQuestions(int people) {
        List<Asked> asked = new ArrayList<>();
        for (int i = 0; i <= people; i++) {
            int p = i;
            asked.add(new Asked("matched " + p, x -> x.matched(p)));
            asked.add(new Asked("open " + p, x -> x.open(p)));
            for (int j = 0; j < 9; j++) {
                int what = j;
                asked.add(new Asked("about " + p + " " + what, x -> x.about(p, what)));
            }
            int[] years = {115, 150, 200, 999};
            for (int year : years) {
                asked.add(new Asked("spouse " + p + " " + year, x -> x.spouse(p, year)));
                asked.add(new Asked("children " + p + " " + year, x -> x.children(p, year)));
            }
        }
        asked.add(new Asked("sure", SectionLand::sure));
        return asked;
    }

    private static List<Asked> campQuestions(int people) {
        List<Asked> asked = new ArrayList<>();
        for (int year : YEARS) {
            for (int i = 0; i < 3; i++) {
                int camp = i;
                asked.add(new Asked("living " + camp + " " + year, x -> x.living(camp, year, NONE)));
                asked.add(new Asked("of class 1 " + camp + " " + year, x -> x.living(camp, year, 1)));
                asked.add(new Asked("match " + camp + " " + year, x -> x.match(camp, year)));
            }
            asked.add(new Asked("right " + year, x -> x.marriages(year, 1)));
            asked.add(new Asked("wrong " + year, x -> x.marriages(year, 0)));
            for (int i = 0; i < people; i += 3) {
                int man = i;
                asked.add(new Asked("may " + man + " " + year, x -> x.may(man, man + 1, year)));
            }
        }
        return asked;
    }

    /** What a later call would do, with numbers that tell how many are there. */
    private static List<Asked> deeds(int people) {
        List<Asked> asked = new ArrayList<>();
        asked.add(new Asked("feed", x -> x.feed(Check.word("a=a"), 3)));
        asked.add(new Asked("system", SectionLand::system));
        asked.add(new Asked("kind", x -> x.fault(0)));
        asked.add(new Asked("place", x -> x.fault(1)));
        asked.add(new Asked("camp", x -> x.camp(0, BY_FATHER)));
        asked.add(new Asked("age", x -> x.age(7)));
        for (int i = 0; i < 3; i++) {
            int camp = i;
            for (int year : YEARS) {
                asked.add(new Asked("stranger of class 2 " + camp + " " + year, x -> x.stranger(MAN, year, camp, 2)));
                asked.add(new Asked("stranger of class 3 " + camp + " " + year, x -> x.stranger(WOMAN, year, camp, 3)));
            }
            asked.add(new Asked("law " + camp, x -> x.law(camp, 119, 1, BY_FATHER)));
            asked.add(new Asked("law again " + camp, x -> x.law(camp, 118, 0, BY_MOTHER)));
        }
        for (int i = 0; i <= people; i++) {
            int p = i;
            asked.add(new Asked("born of " + p, x -> x.born(MAN, 125, p, p + 1)));
            asked.add(new Asked("marry " + p, x -> x.marry(p, p + 1, 140)));
            asked.add(new Asked("die " + p, x -> x.die(p, 155)));
            asked.add(new Asked("class of " + p, x -> x.about(p, 6)));
        }
        for (int i = 0; i < 8; i++) {
            int what = i;
            asked.add(new Asked("count " + what, x -> x.count(what)));
        }
        return asked;
    }

    /** Where nothing is, there is none of each; what is BAD by itself is so already. */
    private static void onNothing() {
        RefusedCallsTest t = new RefusedCallsTest(new Scene(), 0);
        t.refuses("feed n 0", BAD, x -> x.feed('a', 0));
        t.refuses("feed n 9", BAD, x -> x.feed('a', 9));
        t.refuses("fault 2", NONE, x -> x.fault(2));
        t.refuses("table", NONE, x -> x.table(0, 0, 0));
        t.refuses("kin", NONE, x -> x.kin(0, 0, MAN, 1));
        t.refuses("alike", NONE, x -> x.alike(0, MAN, 1, 1));
        t.refuses("home", NONE, x -> x.home(0, MAN, 1));
        t.refuses("brides", NONE, x -> x.brides(0, 0, 1));
        t.refuses("group", NONE, x -> x.group(0));
        t.refuses("half", NONE, x -> x.half(0, 1));
        t.refuses("halves", NONE, x -> x.halves(0, 0));
        t.refuses("camp", NONE, x -> x.camp(0, 0));
        t.refuses("law", NONE, x -> x.law(0, 1, 0, 0));
        t.refuses("stranger", NONE, x -> x.stranger(MAN, 0, 0, NONE));
        t.refuses("born", NONE, x -> x.born(MAN, 20, 0, 1));
        t.refuses("die", NONE, x -> x.die(0, 20));
        t.refuses("age 41", BAD, x -> x.age(41));
        t.refuses("marry", NONE, x -> x.marry(0, 1, 20));
        t.refuses("may", NONE, x -> x.may(0, 1, 20));
        t.refuses("about", -5, x -> x.about(0, 0));
        t.refuses("spouse", NONE, x -> x.spouse(0, 20));
        t.refuses("children", NONE, x -> x.children(0, 20));
        t.refuses("living", NONE, x -> x.living(0, 20, NONE));
        t.refuses("marriages", BAD, x -> x.marriages(20, 2));
        t.refuses("match", NONE, x -> x.match(0, 20));
        t.refuses("matched", NONE, x -> x.matched(0));
        t.refuses("lack 2", NONE, x -> x.lack(2));
        t.refuses("lay", NONE, x -> x.lay(0, 0));
        t.refuses("lies", NONE, x -> x.lies(0));
        t.refuses("open", NONE, x -> x.open(0));
        t.refuses("count 8", NONE, x -> x.count(8));
    }

    /**
     * Three systems, two camps, laws, nine people: 0 and 1 are married, 4 and 5 their children, 6 died, 7 and 8 of
     * the other camp; a fault, a tape half fed, a matching with a lack, systems that lie on one another.
     */
    private static Scene land() {
        Scene s = new Scene().reads(0, Texts.FOUR).reads(1, Texts.TWO).reads(2, "b+a=c;a+c=b;c+b=a");
        s.then(0, x -> x.camp(0, BY_MOTHER)).then(1, x -> x.camp(1, BY_FATHER));
        s.then(2, x -> x.law(0, 300, 2, BY_FATHER)).then(3, x -> x.law(0, 120, 0, BY_FATHER));
        s.then(0, x -> x.stranger(MAN, 100, 0, 0)).then(1, x -> x.stranger(WOMAN, 100, 0, 1));
        s.then(2, x -> x.stranger(MAN, 100, 0, 0)).then(3, x -> x.stranger(MAN, 100, 0, 0));
        s.then(4, x -> x.born(MAN, 118, 1, 2)).then(5, x -> x.born(WOMAN, 121, 1, 0));
        s.then(6, x -> x.stranger(WOMAN, 100, 0, 1)).then(0, x -> x.die(6, 130));
        s.then(7, x -> x.stranger(WOMAN, 110, 1, NONE)).then(8, x -> x.stranger(MAN, 110, 1, 1));
        s.then(16, x -> x.age(17));
        s.then(2, x -> x.match(0, 119)).then(1, x -> x.marry(0, 1, 120)).then(6, x -> x.lay(2, 2));
        s.reads(-12, "a+b=b;b+h=a");
        return s.feeds(0, "a+b=b;b+");
    }

    private static void onALand() {
        RefusedCallsTest t = new RefusedCallsTest(land(), 9);
        systemsOfALand(t);
        campsOfALand(t);
        birthsOfALand(t);
        marriagesOfALand(t);
        restOfALand(t);
    }

    private static void systemsOfALand(RefusedCallsTest t) {
        int[] sizes = {0, 9, -1, LEAST, GREATEST};
        for (int n : sizes) {
            t.refuses("feed n " + n, BAD, x -> x.feed(Check.word("a=a"), n));
        }
        t.refuses("fault 2", NONE, x -> x.fault(2));
        t.refuses("table of no system", NONE, x -> x.table(3, 0, 0));
        t.refuses("table of no class", NONE, x -> x.table(0, 4, 0));
        t.refuses("table of no what", NONE, x -> x.table(0, 0, 5));
        t.refuses("kin of no system", NONE, x -> x.kin(3, 0, MAN, 1));
        t.refuses("kin of no class", NONE, x -> x.kin(1, 2, MAN, 1));
        t.refuses("kin of no sex", NONE, x -> x.kin(0, 0, 2, 1));
        t.refuses("kin of no way", NONE, x -> x.kin(0, 0, MAN, 6));
        t.refuses("alike of no system", NONE, x -> x.alike(3, MAN, 1, 1));
        t.refuses("alike of no sex", NONE, x -> x.alike(0, 2, 1, 1));
        t.refuses("alike of no way", NONE, x -> x.alike(0, MAN, 0, 1));
        t.refuses("alike of no other", NONE, x -> x.alike(0, MAN, 1, 0));
        t.refuses("home of no system", NONE, x -> x.home(3, MAN, 1));
        t.refuses("home of no sex", NONE, x -> x.home(0, 2, 1));
        t.refuses("home of no way", NONE, x -> x.home(0, MAN, 7));
        t.refuses("home of the other sex", STATE, x -> x.home(0, MAN, 2));
        t.refuses("brides of no system", NONE, x -> x.brides(3, 0, 1));
        t.refuses("brides of no class", NONE, x -> x.brides(2, 3, 1));
        t.refuses("brides of 5 steps", BAD, x -> x.brides(0, 0, 5));
        t.refuses("group", NONE, x -> x.group(3));
        t.refuses("half of no system", NONE, x -> x.half(3, 1));
        t.refuses("half of none", BAD, x -> x.half(0, 0));
        t.refuses("half of all", BAD, x -> x.half(0, 15));
        t.refuses("half of a bit of no class", BAD, x -> x.half(0, 17));
        t.refuses("halves of no system", NONE, x -> x.halves(3, 1));
        t.refuses("halves of bits 8", BAD, x -> x.halves(0, 8));
    }

    private static void campsOfALand(RefusedCallsTest t) {
        t.refuses("camp of no system", NONE, x -> x.camp(3, 0));
        t.refuses("camp by 2", BAD, x -> x.camp(2, 2));
        t.refuses("law of no camp", NONE, x -> x.law(2, 120, 1, BY_MOTHER));
        t.refuses("law of no system", NONE, x -> x.law(0, 120, 3, BY_MOTHER));
        t.refuses("law of year 0", BAD, x -> x.law(0, 0, 1, BY_FATHER));
        t.refuses("law of year 1000", BAD, x -> x.law(0, 1000, 1, BY_MOTHER));
        t.refuses("law of the least year", BAD, x -> x.law(0, LEAST, 1, BY_MOTHER));
        t.refuses("law by 2, in place", BAD, x -> x.law(0, 120, 1, 2));
        t.refuses("law by -1, a new one", BAD, x -> x.law(0, 100, 1, -1));
        t.refuses("stranger of no camp", NONE, x -> x.stranger(MAN, 100, 2, 0));
        t.refuses("stranger of no sex", NONE, x -> x.stranger(2, 100, 0, 0));
        t.refuses("stranger of no class", NONE, x -> x.stranger(MAN, 100, 0, 4));
        t.refuses("stranger of class -2", NONE, x -> x.stranger(MAN, 100, 0, -2));
        t.refuses("stranger of year -1", BAD, x -> x.stranger(MAN, -1, 0, 0));
        t.refuses("stranger of year 1000", BAD, x -> x.stranger(MAN, 1000, 0, NONE));
        t.refuses("die of nobody", NONE, x -> x.die(9, 200));
        t.refuses("die at birth", BAD, x -> x.die(0, 100));
        t.refuses("die in 1001", BAD, x -> x.die(0, 1001));
        t.refuses("die again", STATE, x -> x.die(6, 140));
        t.refuses("age -1", BAD, x -> x.age(-1));
        t.refuses("age 41", BAD, x -> x.age(41));
        t.refuses("greatest age", BAD, x -> x.age(GREATEST));
    }

    private static void birthsOfALand(RefusedCallsTest t) {
        t.refuses("born of no sex", NONE, x -> x.born(2, 125, 1, 0));
        t.refuses("born of no mother", NONE, x -> x.born(MAN, 125, 9, 0));
        t.refuses("born of no father", NONE, x -> x.born(MAN, 125, 1, -1));
        t.refuses("born in -1", BAD, x -> x.born(MAN, -1, 1, 0));
        t.refuses("born in 1000", BAD, x -> x.born(MAN, 1000, 1, 0));
        t.refuses("born of a man as mother", BAD, x -> x.born(MAN, 125, 0, 2));
        t.refuses("born of a woman as father", BAD, x -> x.born(MAN, 125, 1, 5));
        t.refuses("born of a dead mother", STATE, x -> x.born(MAN, 130, 6, 0));
        t.refuses("born of a mother of 11", STATE, x -> x.born(MAN, 132, 5, 0));
        t.refuses("born of a father of 11", STATE, x -> x.born(MAN, 129, 1, 4));
        t.refuses("born ahead of all", STATE, x -> x.born(MAN, 50, 1, 0));
    }

    private static void marriagesOfALand(RefusedCallsTest t) {
        t.refuses("marry no man", NONE, x -> x.marry(9, 1, 150));
        t.refuses("marry no woman", NONE, x -> x.marry(2, 9, 150));
        t.refuses("marry in -1", BAD, x -> x.marry(2, 6, -1));
        t.refuses("marry in 1000", BAD, x -> x.marry(2, 6, 1000));
        t.refuses("marry changed about", BAD, x -> x.marry(6, 2, 125));
        t.refuses("marry: 1 hinders", STATE, x -> x.marry(2, 6, 130));
        t.refuses("marry: 2 hinders", STATE, x -> x.marry(2, 6, 116));
        t.refuses("marry: 3 hinders", STATE, x -> x.marry(0, 6, 125));
        t.refuses("marry: 4 hinders", STATE, x -> x.marry(4, 5, 150));
        t.refuses("may of no man", NONE, x -> x.may(9, 1, 150));
        t.refuses("may of no woman", NONE, x -> x.may(2, 9, 150));
        t.refuses("may in 1000", BAD, x -> x.may(2, 6, 1000));
        t.refuses("may changed about", BAD, x -> x.may(6, 2, 125));
    }

    private static void restOfALand(RefusedCallsTest t) {
        t.refuses("about nobody", -5, x -> x.about(9, 0));
        t.refuses("about no what", -5, x -> x.about(0, 9));
        t.refuses("spouse of nobody", NONE, x -> x.spouse(9, 150));
        t.refuses("children of nobody", NONE, x -> x.children(9, 150));
        t.refuses("living of no camp", NONE, x -> x.living(2, 150, NONE));
        t.refuses("living of no class", NONE, x -> x.living(0, 150, 8));
        t.refuses("marriages in 1000", BAD, x -> x.marriages(1000, 1));
        t.refuses("marriages of right 2", BAD, x -> x.marriages(150, 2));
        t.refuses("match of no camp", NONE, x -> x.match(2, 150));
        t.refuses("match in -1", BAD, x -> x.match(0, -1));
        t.refuses("match in 1000", BAD, x -> x.match(0, 1000));
        t.refuses("matched of nobody", NONE, x -> x.matched(9));
        t.refuses("lack 2", NONE, x -> x.lack(2));
        t.refuses("lay no first", NONE, x -> x.lay(3, 0));
        t.refuses("lay no second", NONE, x -> x.lay(0, -1));
        t.refuses("lay unlike n", STATE, x -> x.lay(0, 1));
        t.refuses("lies of no class", NONE, x -> x.lies(3));
        t.refuses("open of nobody", NONE, x -> x.open(9));
        t.refuses("count 8", NONE, x -> x.count(8));
    }

    /** As many as can be of each; the man 0 had all the wives, one behind the other. */
    private static Scene fullLand() {
        Scene s = new Scene().reads(0, Texts.FOUR).reads(1, Texts.TWO).reads(2, Texts.THREE).reads(3, Texts.EIGHT);
        s.feeds(0, Texts.TWO + Texts.EIGHT + "?!");
        s.then(0, x -> x.camp(0, BY_MOTHER)).then(1, x -> x.camp(1, BY_FATHER)).then(2, x -> x.camp(2, BY_MOTHER));
        s.then(2, x -> x.law(0, 100, 0, 1)).then(3, x -> x.law(0, 200, 2, 0));
        s.then(4, x -> x.law(0, 300, 3, 1)).then(5, x -> x.law(0, 400, 1, 0));
        s.then(0, x -> x.stranger(MAN, 90, 0, 0)).then(1, x -> x.stranger(MAN, 90, 0, 0));
        for (int i = 0; i < 40; i++) {
            int wife = 2 + i;
            int c = i % 4;
            s.then(wife, x -> x.stranger(WOMAN, 90, 0, c));
        }
        for (int i = 0; i < 40; i++) {
            int wife = 2 + i;
            int year = 110 + 10 * i;
            int hers = i % 4;
            // Wives of class 0: 1 by the first system, in force up to 199, and by the others here, too.
            s.then(hers == 1 ? 1 : 0, x -> x.marry(0, wife, year)).then(0, x -> x.die(wife, year + 10));
        }
        s.then(42, x -> x.born(MAN, 110, 2, 1)).then(43, x -> x.born(WOMAN, 120, 3, 1));
        s.then(44, x -> x.stranger(WOMAN, 90, 0, 1)).then(45, x -> x.stranger(MAN, 90, 0, 0));
        s.then(46, x -> x.stranger(WOMAN, 90, 1, NONE)).then(47, x -> x.stranger(MAN, 90, 2, 2));
        return s.then(16, x -> x.age(15)).then(16, x -> x.lay(3, 3)).then(1, x -> x.match(0, 600));
    }

    private static void onAFullLand() {
        RefusedCallsTest t = new RefusedCallsTest(fullLand(), 48);
        t.refuses("feed of one", FULL, x -> x.feed('a', 1));
        t.refuses("feed of eight", FULL, x -> x.feed(-1, 8));
        t.refuses("feed n 0", BAD, x -> x.feed(-1, 0));
        t.refuses("system", FULL, SectionLand::system);
        t.refuses("camp", FULL, x -> x.camp(3, BY_FATHER));
        t.refuses("camp by 2", BAD, x -> x.camp(3, 2));
        t.refuses("law between", FULL, x -> x.law(0, 150, 1, BY_MOTHER));
        t.refuses("law at the end", FULL, x -> x.law(0, 999, 1, BY_MOTHER));
        t.refuses("law ahead", FULL, x -> x.law(0, 1, 1, BY_FATHER));
        t.refuses("law by 2, in place", BAD, x -> x.law(0, 100, 1, 2));
        t.refuses("stranger", FULL, x -> x.stranger(MAN, 100, 0, 0));
        t.refuses("stranger of no class told", FULL, x -> x.stranger(WOMAN, 100, 2, NONE));
        t.refuses("stranger in 1000", BAD, x -> x.stranger(MAN, 1000, 2, NONE));
        t.refuses("born", FULL, x -> x.born(MAN, 125, 44, 1));
        t.refuses("born of the dead", STATE, x -> x.born(MAN, 999, 2, 1));
        t.refuses("marry, right", FULL, x -> x.marry(1, 44, 150));
        t.refuses("marry, wrong", FULL, x -> x.marry(47, 46, 150));
        t.refuses("marry: 3 hinders", STATE, x -> x.marry(0, 44, 150));
        t.refuses("die of nobody", NONE, x -> x.die(48, 200));
        t.refuses("die again", STATE, x -> x.die(2, 200));
        t.refuses("match in 1000", BAD, x -> x.match(0, 1000));
        t.refuses("match of no camp", NONE, x -> x.match(3, 600));
        t.refuses("lay unlike n", STATE, x -> x.lay(0, 3));
        t.refuses("lay of no system", NONE, x -> x.lay(0, 4));
    }

    /** The tape has room for less than the word brings: none of its bytes is fed. */
    private static void onANearlyFullTape() {
        Scene s = new Scene().feeds(0, Texts.EIGHT + ";?!?!?!?!");
        for (int i = 56; i < 59; i++) {
            int size = i + 1;
            s.then(size, x -> x.feed('?', 1));
        }
        RefusedCallsTest t = new RefusedCallsTest(s, 0);
        for (int i = 2; i <= 8; i++) {
            int n = i;
            t.refuses("feed of " + n, FULL, x -> x.feed(0, n));
        }
    }
}
