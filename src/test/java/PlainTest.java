import java.util.ArrayList;
import java.util.Collections;
import java.util.List;
import java.util.Random;

/** All promises: random runs of up to 512 calls, answered by the class as by PlainLand. */
public final class PlainTest {
    private static final int RUNS = 4000, CALLS = 512;
    /** No step of a run makes more calls than this. */
    private static final int MOST_OF_A_STEP = 52;
    private static final int[] FAR = {Integer.MIN_VALUE, Integer.MIN_VALUE + 1, -1000, 48, 64, 1 << 18, 1 << 30,
            Integer.MAX_VALUE - 1, Integer.MAX_VALUE};
    private static final Check check = new Check();

    private final Random random;
    private final int run;
    private final SectionLand x = new SectionLand();
    private final PlainLand plain = new PlainLand();
    private final int first, span, classless, n;
    private int made = 0;

    private PlainTest(int run) {
        this.run = run;
        random = new Random(run);
        first = random.nextInt(500);
        span = 20 + random.nextInt(3) * random.nextInt(200);
        classless = random.nextInt(6) == 0 ? 3 : 30;
        n = random.nextInt(7);
    }

    public static void main(String[] args) {
        int runs = args.length > 0 ? Integer.parseInt(args[0]) : RUNS;
        for (int run = 0; run < runs && check.isClean(); run++) {
            new PlainTest(run).calls();
        }
        check.end("PlainTest");
    }

    /** Each answer is of one call on the object. */
    private void due(String call, int got, int want) {
        made++;
        check.due("run " + run + ": " + call, got, want);
    }

    private int below(int bound) {
        return random.nextInt(bound);
    }

    /** Mostly a number from 0 on below the bound, now and then one beside or far from it. */
    private int near(int bound) {
        if (below(300) == 0) {
            return FAR[below(FAR.length)];
        }
        if (bound <= 0 || below(25) == 0) {
            return below(bound + 3) - 1;
        }
        return below(bound);
    }

    private int year() {
        if (below(200) == 0) {
            return FAR[below(FAR.length)];
        }
        return below(40) == 0 ? below(1100) - 50 : first + below(span);
    }

    private int way() {
        if (below(200) == 0) {
            return FAR[below(FAR.length)];
        }
        if (below(10) == 0) {
            return below(1 << 19) - 10;
        }
        int way = 0;
        for (int i = below(6); i >= 0; i--) {
            way = way * 8 + 1 + below(5);
        }
        return way;
    }

    private void calls() {
        for (int i = 0; i < 3; i++) {
            readSystem(n < 2 ? 2 + below(7) : n + 1);
        }
        for (int i = 0; i < 2; i++) {
            int system = below(3), by = below(2);
            due("camp", x.camp(system, by), plain.camp(system, by));
        }
        while (made <= CALLS - MOST_OF_A_STEP && check.isClean()) {
            step(below(40));
        }
    }

    private String text(int classes) {
        List<List<Integer>> columns = new ArrayList<>();
        for (int i = 0; i < 3; i++) {
            List<Integer> column = new ArrayList<>();
            for (int c = 0; c < classes; c++) {
                column.add(c);
            }
            Collections.shuffle(column, random);
            columns.add(column);
        }
        StringBuilder text = new StringBuilder();
        for (int c = 0; c < classes; c++) {
            text.append(c > 0 ? ";" : "").append((char) ('a' + columns.get(0).get(c))).append('+')
                    .append((char) ('a' + columns.get(1).get(c))).append('=')
                    .append((char) ('a' + columns.get(2).get(c)));
        }
        return text.toString();
    }

    private void readSystem(int classes) {
        StringBuilder text = new StringBuilder(text(classes));
        if (below(3) == 0) {
            int at = below(text.length());
            int kind = below(4);
            if (kind == 0) {
                text.setCharAt(at, "abcdefghi+=;".charAt(below(12)));
            } else if (kind == 1) {
                text.setCharAt(at / 2 * 2, (char) ('a' + below(9)));
            } else if (kind == 2) {
                text.setLength(at);
            } else {
                text.append(";a");
            }
        }
        for (int at = 0; at < text.length(); at += 8) {
            int size = Math.min(8, text.length() - at);
            long w = random.nextLong();
            for (int i = 0; i < size; i++) {
                w = w << 8 | text.charAt(at + i);
            }
            due("feed", x.feed(w, size), plain.feed(w, size));
        }
        due("system", x.system(), plain.system());
        due("fault 0", x.fault(0), plain.fault(0));
        due("fault 1", x.fault(1), plain.fault(1));
    }

    private void step(int kind) {
        int people = plain.count(2);
        int p = near(people), q = near(people), r = near(people);
        int year = year(), system = near(plain.count(0)), camp = near(plain.count(1));
        int sex = near(2), by = near(2), way = way(), other = way();
        switch (kind) {
            case 0:
                if (plain.count(5) < 13 && below(4) == 0) {
                    readSystem(2 + below(7));
                } else {
                    aboutSystems();
                }
                return;
            case 1: due("camp", x.camp(system, by), plain.camp(system, by)); return;
            case 2:
                if (below(3) == 0) {
                    due("law", x.law(camp, year, system, by), plain.law(camp, year, system, by));
                    return;
                }
                aboutSystems();
                return;
            case 3:
                due("age", x.age(sex * 7 + by), plain.age(sex * 7 + by));
                if (below(8) == 0) {
                    int size = near(9);
                    long w = random.nextLong();
                    due("feed", x.feed(w, size), plain.feed(w, size));
                }
                return;
            case 4: case 5: case 6: case 7: case 8: {
                int c = below(classless) == 0 ? -1 : near(4) * (1 + below(2));
                due("stranger " + c, x.stranger(sex, year, camp, c), plain.stranger(sex, year, camp, c));
                return;
            }
            case 9: case 10: case 11: case 12: case 13: case 14: case 15: birth(p, q, year); return;
            case 16:
                if (below(2) == 0) {
                    due("die", x.die(p, year), plain.die(p, year));
                }
                return;
            case 17: case 18: wedding(p, q, year); return;
            case 19: due("may", x.may(p, q, year), plain.may(p, q, year)); return;
            case 20: due("spouse", x.spouse(p, year), plain.spouse(p, year)); return;
            case 21: due("children", x.children(p, year), plain.children(p, year)); return;
            case 22: due("living", x.living(camp, year, r % 9), plain.living(camp, year, r % 9)); return;
            case 23: due("marriages", x.marriages(year, by), plain.marriages(year, by)); return;
            case 24: case 25: case 26: case 27: matching(camp, below(3) == 0 ? year : first + span); return;
            case 28:
                if (below(10) == 0) {
                    laying(system, near(plain.count(0)));
                }
                return;
            case 29: case 30: gaps(p); return;
            case 31: due("kin", x.kin(system, q % 9, sex, way), plain.kin(system, q % 9, sex, way)); return;
            case 32: due("alike", x.alike(system, sex, way, other), plain.alike(system, sex, way, other)); return;
            case 33: due("home", x.home(system, sex, way), plain.home(system, sex, way)); return;
            case 34: case 35: {
                int what = near(8);
                due("count " + what, x.count(what), plain.count(what));
                return;
            }
            default: {
                int what = near(9);
                due("about " + p + " " + what, x.about(p, what), plain.about(p, what));
                return;
            }
        }
    }

    private void birth(int mother, int father, int year) {
        for (int i = 0; i < 6 && plain.about(mother, 0) != 1; i++) {
            mother = near(plain.count(2));
        }
        for (int i = 0; i < 6 && plain.about(father, 0) != 0; i++) {
            father = near(plain.count(2));
        }
        int when = below(3) == 0 ? year : plain.about(mother, 1) + 10 + below(12);
        int sex = near(2);
        due("born", x.born(sex, when, mother, father), plain.born(sex, when, mother, father));
    }

    private void wedding(int man, int woman, int year) {
        for (int i = 0; i < 6 && plain.about(man, 0) != 0; i++) {
            man = near(plain.count(2));
        }
        for (int i = 0; i < 6 && (plain.about(woman, 0) != 1 || plain.may(man, woman, year) != 0); i++) {
            woman = near(plain.count(2));
        }
        due("marry", x.marry(man, woman, year), plain.marry(man, woman, year));
    }

    private void matching(int camp, int year) {
        due("match", x.match(camp, year), plain.match(camp, year));
        int people = plain.count(2);
        int stride = below(4) == 0 ? 1 : 7;
        for (int p = below(stride); p < people; p += stride) {
            due("matched " + p, x.matched(p), plain.matched(p));
        }
        due("lack 0", x.lack(0), plain.lack(0));
        due("lack 1", x.lack(1), plain.lack(1));
    }

    private void laying(int one, int two) {
        due("lay", x.lay(one, two), plain.lay(one, two));
        for (int c = -1; c < 9; c++) {
            due("lies " + c, x.lies(c), plain.lies(c));
        }
    }

    private void gaps(int p) {
        if (!plain.canTell()) {
            return;
        }
        due("open " + p, x.open(p), plain.open(p));
        due("sure", x.sure(), plain.sure());
    }

    private void aboutSystems() {
        int system = near(plain.count(0)), c = near(8), what = near(5), steps = 1 + near(3);
        int set = near(256), bits = near(8);
        due("table", x.table(system, c, what), plain.table(system, c, what));
        due("brides", x.brides(system, c, steps), plain.brides(system, c, steps));
        due("half", x.half(system, set), plain.half(system, set));
        due("halves", x.halves(system, bits), plain.halves(system, bits));
        due("group", x.group(system), plain.group(system));
    }
}
