/** Promises 1 to 4 and what the terms say of THE TAPE and RULES, at their bounds. */
public final class TapeBoundsTest {
    private static final int NONE = SectionLand.NONE, BAD = SectionLand.BAD, FULL = SectionLand.FULL;
    private static final Check check = new Check();

    public static void main(String[] args) {
        newObject();
        newObjectsShareNothing();
        longestLife();
        wordSizes();
        lowestBytes();
        endsOfLong();
        sixtyBytes();
        fedBehind();
        systemNumbers();
        emptyThen();
        fourSystems();
        faultAheadOfAny();
        faultOfTheLatest();
        faultBehindFull();
        faultWhats();
        check.end("TapeBoundsTest");
    }

    private static void newObject() {
        check.sentence(1, "No SYSTEMS, CAMPS, PEOPLE; an empty TAPE.");
        SectionLand x = new SectionLand();
        check.row("count", 0, x::count, 0, 0, 0, 0, 16, 0, 0, 0, NONE);
        check.due("table", x.table(0, 0, 4), NONE);
        check.due("kin", x.kin(0, 0, 0, 1), NONE);
        check.due("alike", x.alike(0, 0, 1, 1), NONE);
        check.due("home", x.home(0, 0, 1), NONE);
        check.due("brides", x.brides(0, 0, 1), NONE);
        check.due("group", x.group(0), NONE);
        check.due("half", x.half(0, 1), NONE);
        check.due("halves", x.halves(0, 0), NONE);
        check.due("camp", x.camp(0, 0), NONE);
        check.due("law", x.law(0, 1, 0, 0), NONE);
        check.due("stranger", x.stranger(0, 0, 0, NONE), NONE);
        check.due("born", x.born(0, 20, 0, 0), NONE);
        check.due("die", x.die(0, 1), NONE);
        check.due("marry", x.marry(0, 0, 20), NONE);
        check.due("may", x.may(0, 0, 20), NONE);
        check.due("about", x.about(0, 0), -5);
        check.due("spouse", x.spouse(0, 20), NONE);
        check.due("children", x.children(0, 20), NONE);
        check.due("living", x.living(0, 20, NONE), NONE);
        check.due("marriages, right", x.marriages(20, 1), 0);
        check.due("marriages, wrong", x.marriages(20, 0), 0);
        check.due("match", x.match(0, 20), NONE);
        check.due("matched", x.matched(0), NONE);
        check.due("lay", x.lay(0, 0), NONE);
        check.due("lies", x.lies(0), NONE);
        check.due("open", x.open(0), NONE);
        check.due("sure", x.sure(), 0);
        check.due("system of an empty tape", x.system(), -11);
        check.due("its place", x.fault(1), 0);
    }

    private static void newObjectsShareNothing() {
        check.sentence(1, "A new object");
        SectionLand old = Check.land(Texts.TWO);
        old.camp(0, 0);
        old.stranger(0, 0, 0, 0);
        old.stranger(1, 0, 0, 1);
        old.age(3);
        old.match(0, 20);
        old.lay(0, 0);
        old.feed('?', 1);
        old.system();
        old.feed('?', 1);
        SectionLand x = new SectionLand();
        check.row("count", 0, x::count, 0, 0, 0, 0, 16, 0, 0, 0);
        check.row("fault", 0, x::fault, 0, NONE);
        check.row("lack", 0, x::lack, 0, 0);
        check.due("matched", x.matched(0), NONE);
        check.due("lies", x.lies(0), NONE);
        check.row("count of the old one", 0, old::count, 1, 1, 2, 0, 3, 1, 0, 0);
        check.due("matched of the old one", old.matched(0), 1);
    }

    private static void longestLife() {
        check.sentence(0, "An object is used for at most 512 calls after it has been made");
        SectionLand x = new SectionLand();
        // Six words and the reading of them are the calls 1 to 7.
        Check.read(x, Texts.EIGHT);
        for (int call = 8; call <= 508; call += 3) {
            check.due("call " + call, x.group(0), 1000);
            check.due("call " + (call + 1), x.lay(0, 0), 16);
            check.due("call " + (call + 2), x.lies(7), 7);
        }
        check.due("call 509", x.feed('?', 1), 1);
        check.due("call 510", x.system(), -11);
        check.due("call 511", x.fault(1), 0);
        check.due("call 512", x.table(0, 7, 4), 8);
    }

    private static void wordSizes() {
        check.sentence(2, "BAD: n not 1 .. 8");
        check.outside("feed n", 1, 8, BAD, n -> new SectionLand().feed('a', n));
        check.row("feed n", 1, n -> new SectionLand().feed('a', n), 1, 2, 3, 4, 5, 6, 7, 8);
        SectionLand x = new SectionLand();
        check.outside("feed n", 1, 8, BAD, n -> x.feed(Long.MAX_VALUE, n));
        check.due("nothing was fed", x.count(5), 0);
    }

    /** For each n: a text whose first n bytes come in one word, with other bytes above them. */
    private static void lowestBytes() {
        check.sentence(2, "The n lowest bytes of w, the highest first, come behind THE TAPE's");
        long[] above = {0, -1L, Long.MIN_VALUE, Long.MAX_VALUE, 0x6162636465666768L};
        for (int n = 1; n <= 8; n++) {
            for (long garbage : above) {
                long kept = n == 8 ? 0 : garbage >>> 8 * n << 8 * n;
                SectionLand x = new SectionLand();
                x.feed(kept | Check.word(Texts.FOUR.substring(0, n)), n);
                check.due("read, n " + n, Check.read(x, Texts.FOUR.substring(n)), 0);
                check.row("wife, n " + n, 0, c -> x.table(0, c, 0), 1, 0, 3, 2);
                check.row("child, n " + n, 0, c -> x.table(0, c, 1), 3, 2, 1, 0);
            }
        }
    }

    private static void endsOfLong() {
        check.sentence(2, "The n lowest bytes of w");
        long[] ends = {Long.MIN_VALUE, Long.MIN_VALUE + 1, -1, 0, Long.MAX_VALUE - 1, Long.MAX_VALUE};
        for (long w : ends) {
            for (int n = 1; n <= 8; n++) {
                SectionLand x = new SectionLand();
                x.feed(Check.word("a+b=b"), 5);
                check.due("feed " + w + " " + n, x.feed(w, n), 5 + n);
                check.due("system " + w + " " + n, x.system(), -11);
                check.due("place " + w + " " + n, x.fault(1), 5);
            }
            check.outside("feed " + w, 1, 8, BAD, n -> new SectionLand().feed(w, n));
        }
        SectionLand x = new SectionLand();
        x.feed(Long.MIN_VALUE | 'a', 1);
        x.feed(Long.MAX_VALUE & ~255L | '+', 1);
        Check.feed(x, "b=b;b+a=a");
        check.due("signs below the ends", x.system(), 0);
    }

    private static SectionLand withBytes(int size) {
        SectionLand x = new SectionLand();
        for (int i = 0; i < size / 8; i++) {
            x.feed(0, 8);
        }
        if (size % 8 != 0) {
            x.feed(0, size % 8);
        }
        return x;
    }

    private static void sixtyBytes() {
        check.sentence(0, "THE TAPE (bytes, 60 at most)");
        for (int size = 0; size <= 60; size++) {
            for (int n = 1; n <= 8; n++) {
                SectionLand x = withBytes(size);
                int want = size + n <= 60 ? size + n : FULL;
                check.due("of " + size + " feed " + n, x.feed(-1, n), want);
                check.due("of " + size + " behind " + n, x.count(5), want == FULL ? size : want);
            }
        }
        check.sentence(2, "FULL.");
        SectionLand x = withBytes(59);
        check.due("two behind 59", x.feed(0, 2), FULL);
        check.due("one behind 59", x.feed(0, 1), 60);
        check.due("one behind 60", x.feed(0, 1), FULL);
        x.system();
        check.due("room again", x.feed(0, 8), 8);
    }

    /** What a refused word held is not on the tape, and what was there stays as it was. */
    private static void fedBehind() {
        check.sentence(2, "come behind THE TAPE's: how many it has");
        SectionLand x = new SectionLand();
        for (int i = 0; i < Texts.EIGHT.length(); i++) {
            check.due("one by one", x.feed(Texts.EIGHT.charAt(i), 1), i + 1);
            x.feed('?', 0);
            x.feed('?', 9);
        }
        check.due("read", x.system(), 0);
        Check.feed(x, Texts.TWO);
        for (int i = 11; i < 59; i++) {
            x.feed('?', 1);
        }
        check.due("refused", x.feed(Check.word(";;"), 2), FULL);
        check.due("system", x.system(), -11);
        check.due("place", x.fault(1), 11);
    }

    private static void systemNumbers() {
        check.sentence(0, "SYSTEMS are numbered from 0 on, 4 at most.");
        SectionLand x = new SectionLand();
        String[] texts = {Texts.TWO, Texts.THREE, Texts.FOUR, Texts.EIGHT};
        int[] sizes = {2, 3, 4, 8};
        for (int i = 0; i < 4; i++) {
            check.due("not there yet", x.table(i, 0, 4), NONE);
            check.due("number", Check.read(x, texts[i]), i);
            check.due("count", x.count(0), i + 1);
            check.due("n", x.table(i, 0, 4), sizes[i]);
        }
        check.due("a fifth", Check.read(x, Texts.TWO), FULL);
        check.due("four", x.count(0), 4);
        check.due("no fifth", x.table(4, 0, 4), NONE);
        check.sentence(3, "its number; -10 less the kind of its FAULT.");
        SectionLand y = new SectionLand();
        check.due("kind 1", Check.read(y, "a"), -11);
        check.due("kind 2", Check.read(y, "a+b=c;b+a=a"), -12);
        check.due("kind 3", Check.read(y, "a+b=a;a+a=b"), -13);
        check.due("faults make no numbers", Check.read(y, Texts.TWO), 0);
        check.due("kind 3 again", Check.read(y, "a+b=a;a+a=b"), -13);
        check.due("next", Check.read(y, Texts.TWO), 1);
    }

    private static void emptyThen() {
        check.sentence(3, "THE TAPE, which is empty then, is a SYSTEM");
        String[] texts = {"", "a", "a+b=c;b+a=a", "a+b=a;a+a=b", Texts.TWO, Texts.EIGHT};
        for (String text : texts) {
            SectionLand x = new SectionLand();
            Check.read(x, text);
            check.due("tape behind " + text, x.count(5), 0);
            check.due("next feed behind " + text, x.feed(0, 1), 1);
        }
        SectionLand x = withBytes(60);
        check.due("a full tape", x.system(), -11);
        check.due("empty behind it", x.count(5), 0);
        check.due("nothing of it is left", Check.read(x, Texts.TWO), 0);
    }

    private static void fourSystems() {
        check.sentence(3, "FULL: 4 are there (THE TAPE stays).");
        SectionLand x = Check.land(Texts.TWO, Texts.TWO, Texts.TWO);
        check.due("a fault with three", Check.read(x, "?"), -11);
        check.due("the fourth", Check.read(x, Texts.FOUR), 3);
        check.due("an empty tape", x.system(), FULL);
        check.due("good text", Check.read(x, Texts.THREE), FULL);
        check.due("it stays", x.count(5), 17);
        check.due("again", x.system(), FULL);
        check.due("it stays still", x.count(5), 17);
        check.due("faulty text", Check.read(x, "?"), FULL);
        check.due("that stays, too", x.count(5), 18);
        check.due("and grows", x.feed(0, 8), 26);
        check.due("the fourth is as it was", x.table(3, 0, 4), 4);
        check.row("its wives", 0, c -> x.table(3, c, 0), 1, 0, 3, 2, NONE);
        x.feed(0, 8);
        x.feed(0, 8);
        x.feed(0, 8);
        x.feed(0, 8);
        check.due("up to 60", x.feed(0, 2), 60);
        check.due("a full tape", x.system(), FULL);
        check.due("stays full", x.count(5), 60);
    }

    private static void faultAheadOfAny() {
        check.sentence(4, "(0, NONE without one, and ahead of any)");
        SectionLand x = new SectionLand();
        check.row("ahead of any", 0, x::fault, 0, NONE);
        x.feed('?', 1);
        check.row("fed, not read", 0, x::fault, 0, NONE);
        Check.read(x, "");
        check.row("faulty", 0, x::fault, 1, 0);
        check.due("good", Check.read(x, Texts.TWO), 0);
        check.row("without one", 0, x::fault, 0, NONE);
    }

    private static void faultOfTheLatest() {
        check.sentence(4, "Of the latest system() (but FULL) the FAULT's 0 kind, 1 place");
        SectionLand x = new SectionLand();
        Check.read(x, "a+b=b;b+a=A");
        check.row("kind 1", 0, x::fault, 1, 10);
        x.feed('a', 1);
        x.feed('a', 0);
        check.row("feeding leaves it", 0, x::fault, 1, 10);
        Check.read(x, "+c=a;b+a=a");
        check.row("kind 2", 0, x::fault, 2, 2);
        Check.read(x, "a+b=a;b+b=b");
        check.row("kind 3", 0, x::fault, 3, 8);
        x.system();
        check.row("of nothing", 0, x::fault, 1, 0);
    }

    private static void faultBehindFull() {
        check.sentence(4, "(but FULL)");
        SectionLand x = Check.land(Texts.TWO, Texts.TWO, Texts.TWO);
        Check.read(x, "a");
        check.row("with three", 0, x::fault, 1, 1);
        Check.read(x, Texts.TWO);
        check.row("of the fourth", 0, x::fault, 0, NONE);
        Check.read(x, "?");
        check.row("FULL is no fault", 0, x::fault, 0, NONE);
    }

    private static void faultWhats() {
        check.sentence(4, "NONE: another what.");
        check.outside("without a fault", 0, 1, NONE, new SectionLand()::fault);
        SectionLand x = new SectionLand();
        Check.read(x, "a+b=b;b+a=c");
        check.outside("with a fault", 0, 1, NONE, x::fault);
        check.row("it is still", 0, x::fault, 2, 10);
    }
}
