import java.util.ArrayList;
import java.util.Collections;
import java.util.List;
import java.util.Random;

/** All promises: random runs of up to 512 calls, answered by the class as by PlainLand. */
public final class PlainTest {
    private static final int RUNS = 1500, CALLS = 512;
    private static final int[] FAR = {Integer.MIN_VALUE, Integer.MIN_VALUE + 1, -1000, 48, 64, 1 << 18, 1 << 30,
            Integer.MAX_VALUE - 1, Integer.MAX_VALUE};
    private static final Check check = new Check();

    private final Random random;
    private final int run;
    private final SectionLand x = new SectionLand();
    private final PlainLand plain = new PlainLand();
    private final int first, span, classless, n;

    private PlainTest(int run) {
        this.run = run;
        random = new Random(run);
        first = random.nextInt(500);
        span = 20 + random.nextInt(3) * random.nextInt(200);
        classless = random.nextInt(6) == 0 ? 3 : 30;
        n = random.nextInt(7);
    }

    public static void main(String[] args) {
        int runs = args.length > 0 ? Integer.parseInt(args[0]) : RUNS;
        for (int run = 0; run < runs && check.isClean(); run++) {
            new PlainTest(run).calls();
        }
        check.end("PlainTest");
    }

    private void due(String call, int got, int want) {
        check.due("run " + run + ": " + call, got, want);
    }

    private int below(int bound) {
        return random.nextInt(bound);
    }

    /** Mostly a number from 0 on below the bound, now and then one beside or far from it. */
    private int near(int bound) {
        if (below(300) == 0) {
            return FAR[below(FAR.length)];
        }
        if (bound <= 0 || below(25) == 0) {
            return below(bound + 3) - 1;
        }
        return below(bound);
    }

    private int year() {
        if (below(200) == 0) {
            return FAR[below(FAR.length)];
        }
        return below(40) == 0 ? below(1100) - 50 : first + below(span);
    }

    private int way() {
        if (below(200) == 0) {
            return FAR[below(FAR.length)];
        }
        if (below(10) == 0) {
            return below(1 << 19) - 10;
        }
        int way = 0;
        for (int i = below(6); i >= 0; i--) {
            way = way * 8 + 1 + below(5);
        }
        return way;
    }

    private void calls() {
        for (int i = 0; i < 3; i++) {
            readSystem(n < 2 ? 2 + below(7) : n + 1);
        }
        for (int i = 0; i < 2; i++) {
            int system = below(3), by = below(2);
            due("camp", x.camp(system, by), plain.camp(system, by));
        }
        int left = CALLS - 40;
        while (left > 0 && check.isClean()) {
            left -= oneCall(below(40));
        }
    }

    private String text(int classes) {
        List<List<Integer>> columns = new ArrayList<>();
        for (int i = 0; i < 3; i++) {
            List<Integer> column = new ArrayList<>();
            for (int c = 0; c < classes; c++) {
                column.add(c);
            }
            Collections.shuffle(column, random);
            columns.add(column);
        }
        StringBuilder text = new StringBuilder();
        for (int c = 0; c < classes; c++) {
            text.append(c > 0 ? ";" : "").append((char) ('a' + columns.get(0).get(c))).append('+')
                    .append((char) ('a' + columns.get(1).get(c))).append('=')
                    .append((char) ('a' + columns.get(2).get(c)));
        }
        return text.toString();
    }

    private int readSystem(int classes) {
        StringBuilder text = new StringBuilder(text(classes));
        if (below(3) == 0) {
            int at = below(text.length());
            int kind = below(4);
            if (kind == 0) {
                text.setCharAt(at, "abcdefghi+=;".charAt(below(12)));
            } else if (kind == 1) {
                text.setCharAt(at / 2 * 2, (char) ('a' + below(9)));
            } else if (kind == 2) {
                text.setLength(at);
            } else {
                text.append(";a");
            }
        }
        int fed = 0;
        for (int at = 0; at < text.length(); at += 8) {
            int size = Math.min(8, text.length() - at);
            long w = random.nextLong();
            for (int i = 0; i < size; i++) {
                w = w << 8 | text.charAt(at + i);
            }
            due("feed", x.feed(w, size), plain.feed(w, size));
            fed++;
        }
        due("system", x.system(), plain.system());
        due("fault 0", x.fault(0), plain.fault(0));
        due("fault 1", x.fault(1), plain.fault(1));
        return fed + 3;
    }

    private int oneCall(int kind) {
        int people = plain.count(2);
        int p = near(people), q = near(people), r = near(people);
        int year = year(), system = near(plain.count(0)), camp = near(plain.count(1));
        int sex = near(2), by = near(2), way = way(), other = way();
        switch (kind) {
            case 0: return plain.count(5) < 13 && below(4) == 0 ? readSystem(2 + below(7)) : aboutSystems();
            case 1: due("camp", x.camp(system, by), plain.camp(system, by)); return 1;
            case 2:
                if (below(3) == 0) {
                    due("law", x.law(camp, year, system, by), plain.law(camp, year, system, by));
                    return 1;
                }
                return aboutSystems();
            case 3:
                due("age", x.age(sex * 7 + by), plain.age(sex * 7 + by));
                if (below(8) == 0) {
                    int size = near(9);
                    long w = random.nextLong();
                    due("feed", x.feed(w, size), plain.feed(w, size));
                }
                return 2;
            case 4: case 5: case 6: case 7: case 8: {
                int c = below(classless) == 0 ? -1 : near(4) * (1 + below(2));
                due("stranger " + c, x.stranger(sex, year, camp, c), plain.stranger(sex, year, camp, c));
                return 1;
            }
            case 9: case 10: case 11: case 12: case 13: case 14: case 15: return birth(p, q, year);
            case 16:
                if (below(2) == 0) {
                    due("die", x.die(p, year), plain.die(p, year));
                }
                return 1;
            case 17: case 18: return wedding(p, q, year);
            case 19: due("may", x.may(p, q, year), plain.may(p, q, year)); return 1;
            case 20: due("spouse", x.spouse(p, year), plain.spouse(p, year)); return 1;
            case 21: due("children", x.children(p, year), plain.children(p, year)); return 1;
            case 22: due("living", x.living(camp, year, r % 9), plain.living(camp, year, r % 9)); return 1;
            case 23: due("marriages", x.marriages(year, by), plain.marriages(year, by)); return 1;
            case 24: case 25: case 26: case 27: return matching(camp, below(3) == 0 ? year : first + span);
            case 28: return below(10) == 0 ? laying(system, near(plain.count(0))) : 0;
            case 29: case 30: return gaps(p);
            case 31: due("kin", x.kin(system, q % 9, sex, way), plain.kin(system, q % 9, sex, way)); return 1;
            case 32: due("alike", x.alike(system, sex, way, other), plain.alike(system, sex, way, other)); return 1;
            case 33: due("home", x.home(system, sex, way), plain.home(system, sex, way)); return 1;
            case 34: case 35: {
                int what = near(8);
                due("count " + what, x.count(what), plain.count(what));
                return 1;
            }
            default: {
                int what = near(9);
                due("about " + p + " " + what, x.about(p, what), plain.about(p, what));
                return 1;
            }
        }
    }

    private int birth(int mother, int father, int year) {
        for (int i = 0; i < 6 && plain.about(mother, 0) != 1; i++) {
            mother = near(plain.count(2));
        }
        for (int i = 0; i < 6 && plain.about(father, 0) != 0; i++) {
            father = near(plain.count(2));
        }
        int when = below(3) == 0 ? year : plain.about(mother, 1) + 10 + below(12);
        int sex = near(2);
        due("born", x.born(sex, when, mother, father), plain.born(sex, when, mother, father));
        return 1;
    }

    private int wedding(int man, int woman, int year) {
        for (int i = 0; i < 6 && plain.about(man, 0) != 0; i++) {
            man = near(plain.count(2));
        }
        for (int i = 0; i < 6 && (plain.about(woman, 0) != 1 || plain.may(man, woman, year) != 0); i++) {
            woman = near(plain.count(2));
        }
        due("marry", x.marry(man, woman, year), plain.marry(man, woman, year));
        return 1;
    }

    private int matching(int camp, int year) {
        due("match", x.match(camp, year), plain.match(camp, year));
        for (int p = 0; p < plain.count(2); p++) {
            due("matched " + p, x.matched(p), plain.matched(p));
        }
        due("lack 0", x.lack(0), plain.lack(0));
        due("lack 1", x.lack(1), plain.lack(1));
        return 4;
    }

    private int laying(int one, int two) {
        due("lay", x.lay(one, two), plain.lay(one, two));
        for (int c = -1; c < 9; c++) {
            due("lies " + c, x.lies(c), plain.lies(c));
        }
        return 3;
    }

    private int gaps(int p) {
        if (!plain.canTell()) {
            return 1;
        }
        due("open " + p, x.open(p), plain.open(p));
        due("sure", x.sure(), plain.sure());
        return 2;
    }

    private int aboutSystems() {
        int system = near(plain.count(0)), c = near(8), what = near(5), steps = 1 + near(3);
        int set = near(256), bits = near(8);
        due("table", x.table(system, c, what), plain.table(system, c, what));
        due("brides", x.brides(system, c, steps), plain.brides(system, c, steps));
        due("half", x.half(system, set), plain.half(system, set));
        due("halves", x.halves(system, bits), plain.halves(system, bits));
        due("group", x.group(system), plain.group(system));
        return 5;
    }
}
