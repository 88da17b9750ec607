import java.util.ArrayList;
import java.util.Collections;
import java.util.HashSet;
import java.util.List;
import java.util.Set;
import java.util.TreeMap;

/** The document in its plainest form, for tests: nothing is kept that can be found anew by trying all. */
final class PlainLand {
    private record Sections(int[] wife, int[] child) {
        int n() {
            return wife.length;
        }

        int childOfMan(int c) {
            return child[wife[c]];
        }
    }

    private record Law(Sections sections, int by) {
    }

    private static final class Person {
        int sex, birth, camp, told = -1;
        Integer death;
        Person mother, father;
    }

    private record Wedding(Person man, Person woman, int year) {
    }

    private String tape = "";
    private int kind = 0, place = -1, age = 16;
    private final List<Sections> systems = new ArrayList<>();
    private final List<TreeMap<Integer, Law>> camps = new ArrayList<>();
    private final List<Person> people = new ArrayList<>();
    private final List<Wedding> weddings = new ArrayList<>();
    private int[] couples = new int[0];
    private int lackMen = 0, lackWomen = 0;
    private int[] laid = new int[0];

    int feed(long w, int n) {
        if (n < 1 || n > 8) return -2;
        if (tape.length() + n > 60) return -4;
        StringBuilder more = new StringBuilder();
        for (int i = 0; i < n; i++) {
            more.insert(0, (char) (w & 255));
            w >>= 8;
        }
        tape += more;
        return tape.length();
    }

    int system() {
        if (systems.size() == 4) return -4;
        String text = tape;
        tape = "";
        kind = 1;
        place = 0;
        while (place < text.length() && canGoOn(text.substring(0, place + 1))) place++;
        if (place < text.length() || !text.matches("[a-h]\\+[a-h]=[a-h](;[a-h]\\+[a-h]=[a-h]){1,7}")) return -11;
        String[] rules = text.split(";");
        kind = 2;
        for (place = 0; place < text.length(); place++) {
            if (Character.isLetter(text.charAt(place)) && text.charAt(place) - 'a' >= rules.length) return -12;
        }
        kind = 3;
        for (int r = 0; r < rules.length; r++) {
            for (int i = 0; i < 5; i += 2) {
                for (int q = 0; q < r; q++) {
                    place = 6 * r + i;
                    if (rules[q].charAt(i) == rules[r].charAt(i)) return -13;
                }
            }
        }
        kind = 0;
        place = -1;
        Sections s = new Sections(new int[rules.length], new int[rules.length]);
        for (String rule : rules) {
            s.wife[rule.charAt(0) - 'a'] = rule.charAt(2) - 'a';
            s.child[rule.charAt(2) - 'a'] = rule.charAt(4) - 'a';
        }
        systems.add(s);
        return systems.size() - 1;
    }

    private static boolean canGoOn(String start) {
        String longest = "a+a=a;a+a=a;a+a=a;a+a=a;a+a=a;a+a=a;a+a=a;a+a=a";
        return start.length() <= longest.length()
                && start.replaceAll("[b-h]", "a").equals(longest.substring(0, start.length()));
    }

    int fault(int what) {
        return what == 0 ? kind : what == 1 ? place : -1;
    }

    private boolean noSystem(int s) {
        return s < 0 || s >= systems.size();
    }

    private boolean noClass(int s, int c) {
        return noSystem(s) || c < 0 || c >= systems.get(s).n();
    }

    int table(int s, int c, int what) {
        if (noClass(s, c) || what < 0 || what > 4) return -1;
        Sections x = systems.get(s);
        return switch (what) {
            case 0 -> x.wife[c];
            case 1 -> x.child[c];
            case 2 -> x.childOfMan(c);
            case 3 -> find(x.wife, c);
            default -> x.n();
        };
    }

    private static int find(int[] row, int value) {
        for (int i = 0; i < row.length; i++) {
            if (row[i] == value) return i;
        }
        return -1;
    }

    private static String stepsOf(int way) {
        if (way < 1) return null;
        String steps = new StringBuilder(Integer.toString(way, 8)).reverse().toString();
        return steps.matches("[1-5]{1,6}") ? steps : null;
    }

    private static int[] go(Sections x, int c, int sex, String steps) {
        for (char step : steps.toCharArray()) {
            if (step == '1') {
                c = find(x.wife, find(x.child, c));
                sex = 0;
            } else if (step == '2') {
                c = find(x.child, c);
                sex = 1;
            } else if (step == '3') {
                c = sex == 0 ? x.wife[c] : find(x.wife, c);
                sex = 1 - sex;
            } else {
                c = sex == 0 ? x.childOfMan(c) : x.child[c];
                sex = step - '4';
            }
        }
        return new int[] {c, sex};
    }

    int kin(int s, int c, int sex, int way) {
        if (noClass(s, c) || sex < 0 || sex > 1 || stepsOf(way) == null) return -1;
        return go(systems.get(s), c, sex, stepsOf(way))[0];
    }

    int alike(int s, int sex, int way, int other) {
        if (noSystem(s) || sex < 0 || sex > 1 || stepsOf(way) == null || stepsOf(other) == null) return -1;
        for (int c = 0; c < systems.get(s).n(); c++) {
            if (kin(s, c, sex, way) != kin(s, c, sex, other)) return 0;
        }
        return 1;
    }

    int home(int s, int sex, int way) {
        if (noSystem(s) || sex < 0 || sex > 1 || stepsOf(way) == null) return -1;
        Sections x = systems.get(s);
        String steps = stepsOf(way);
        if (go(x, 0, sex, steps)[1] != sex) return -3;
        for (int times = 1;; times++) {
            boolean home = true;
            for (int c = 0; c < x.n(); c++) home &= go(x, c, sex, steps.repeat(times))[0] == c;
            if (home) return times;
        }
    }

    int brides(int s, int c, int steps) {
        if (noClass(s, c)) return -1;
        if (steps < 1 || steps > 4) return -2;
        Sections x = systems.get(s);
        int found = 0;
        for (int way = 1; way < 1 << 3 * steps; way++) {
            String digits = stepsOf(way);
            if (digits == null || digits.length() != steps) continue;
            int[] to = go(x, c, 0, digits);
            if (to[0] == x.wife[c] && to[1] == 1) found++;
        }
        return found;
    }

    int group(int s) {
        if (noSystem(s)) return -1;
        Sections x = systems.get(s);
        List<List<Integer>> all = new ArrayList<>();
        List<Integer> start = new ArrayList<>();
        for (int c = 0; c < x.n(); c++) start.add(c);
        all.add(start);
        Set<List<Integer>> known = new HashSet<>(all);
        for (int i = 0; i < all.size() && all.size() < 1000; i++) {
            for (int which = 0; which < 3; which++) {
                List<Integer> next = new ArrayList<>();
                for (int c : all.get(i)) next.add(table(s, c, which));
                if (known.add(next)) all.add(next);
            }
        }
        return Math.min(1000, all.size());
    }

    int half(int s, int set) {
        if (noSystem(s)) return -1;
        Sections x = systems.get(s);
        if (set < 1 || set >= (1 << x.n()) - 1) return -2;
        int bits = 7;
        for (int c = 0; c < x.n(); c++) {
            boolean in = (set & 1 << c) != 0;
            if (in == ((set & 1 << x.wife[c]) != 0)) bits &= ~1;
            if (in != ((set & 1 << x.child[c]) != 0)) bits &= ~2;
            if (in != ((set & 1 << x.childOfMan(c)) != 0)) bits &= ~4;
        }
        return bits;
    }

    int halves(int s, int bits) {
        if (noSystem(s)) return -1;
        if (bits < 0 || bits > 7) return -2;
        int found = 0;
        for (int set = 0; set < 256; set++) {
            int half = half(s, set);
            if ((set & 1) == 1 && half >= 0 && (half & bits) == bits) found++;
        }
        return found;
    }

    int camp(int s, int by) {
        if (noSystem(s)) return -1;
        if (by < 0 || by > 1) return -2;
        if (camps.size() == 3) return -4;
        TreeMap<Integer, Law> laws = new TreeMap<>();
        laws.put(0, new Law(systems.get(s), by));
        camps.add(laws);
        return camps.size() - 1;
    }

    private boolean noCamp(int camp) {
        return camp < 0 || camp >= camps.size();
    }

    int law(int camp, int year, int s, int by) {
        if (noCamp(camp) || noSystem(s)) return -1;
        if (year < 1 || year > 999 || by < 0 || by > 1) return -2;
        TreeMap<Integer, Law> laws = camps.get(camp);
        if (!laws.containsKey(year) && laws.size() == 5) return -4;
        laws.put(year, new Law(systems.get(s), by));
        return laws.size();
    }

    private Law lawOf(int camp, int year) {
        return year < 0 ? camps.get(camp).get(0) : camps.get(camp).floorEntry(year).getValue();
    }

    private static boolean badYear(int year) {
        return year < 0 || year > 999;
    }

    int stranger(int sex, int year, int camp, int c) {
        if (noCamp(camp) || sex < 0 || sex > 1 || c < -1 || c >= lawOf(camp, year).sections.n()) return -1;
        if (badYear(year)) return -2;
        if (people.size() == 48) return -4;
        Person p = new Person();
        p.sex = sex;
        p.birth = year;
        p.camp = camp;
        p.told = c;
        people.add(p);
        return people.size() - 1;
    }

    private Person person(int p) {
        return p < 0 || p >= people.size() ? null : people.get(p);
    }

    int born(int sex, int year, int mother, int father) {
        Person m = person(mother), f = person(father);
        if (sex < 0 || sex > 1 || m == null || f == null) return -1;
        if (badYear(year) || m.sex != 1 || f.sex != 0) return -2;
        if (!lives(m, year) || !(lives(f, year - 1) || lives(f, year))) return -3;
        if (year < m.birth + 12 || year < f.birth + 12) return -3;
        if (people.size() == 48) return -4;
        Person p = new Person();
        p.sex = sex;
        p.birth = year;
        p.camp = m.camp;
        p.mother = m;
        p.father = f;
        people.add(p);
        return people.size() - 1;
    }

    private static boolean lives(Person p, int year) {
        return p.birth <= year && (p.death == null || year < p.death);
    }

    int die(int person, int year) {
        Person p = person(person);
        if (p == null) return -1;
        if (year <= p.birth || year > 1000) return -2;
        if (p.death != null) return -3;
        p.death = year;
        return 0;
    }

    int age(int years) {
        if (years < 0 || years > 40) return -2;
        int was = age;
        age = years;
        return was;
    }

    int marry(int man, int woman, int year) {
        int may = may(man, woman, year);
        if (may < 0) return may;
        if (may >= 1 && may <= 4) return -3;
        if (weddings.size() == 40) return -4;
        weddings.add(new Wedding(person(man), person(woman), year));
        return may == 0 ? 1 : 0;
    }

    int may(int man, int woman, int year) {
        Person m = person(man), w = person(woman);
        if (m == null || w == null) return -1;
        if (badYear(year) || m.sex != 0 || w.sex != 1) return -2;
        if (!lives(m, year) || !lives(w, year)) return 1;
        if (year - m.birth < age || year - w.birth < age) return 2;
        if (spouse(man, year) >= 0 || spouse(woman, year) >= 0) return 3;
        if (m.mother == w || w.father == m) return 4;
        if (m.mother != null && (m.mother == w.mother || m.father == w.father)) return 4;
        return right(m, w, year) ? 0 : 5;
    }

    private boolean right(Person m, Person w, int year) {
        Sections x = lawOf(w.camp, year).sections;
        int his = classOf(m), hers = classOf(w);
        return his >= 0 && hers >= 0 && his < x.n() && x.wife[his] == hers;
    }

    private int classOf(Person p) {
        if (p.mother == null) return p.told;
        return made(p, lawOf(p.camp, p.birth).by);
    }

    private int made(Person p, int by) {
        Sections x = lawOf(p.camp, p.birth).sections;
        int parent = classOf(by == 0 ? p.mother : p.father);
        if (parent < 0 || parent >= x.n()) return -1;
        return by == 0 ? x.child[parent] : x.childOfMan(parent);
    }

    private int otherOf(Person p) {
        return p.mother == null ? -1 : made(p, 1 - lawOf(p.camp, p.birth).by);
    }

    int about(int person, int what) {
        Person p = person(person);
        if (p == null) return -5;
        return switch (what) {
            case 0 -> p.sex;
            case 1 -> p.birth;
            case 2 -> p.death == null ? -1 : p.death;
            case 3 -> p.camp;
            case 4 -> people.indexOf(p.mother);
            case 5 -> people.indexOf(p.father);
            case 6 -> classOf(p);
            case 7 -> otherOf(p);
            case 8 -> classOf(p) >= 0 && otherOf(p) >= 0 && classOf(p) != otherOf(p) ? 1 : 0;
            default -> -5;
        };
    }

    private static boolean lasts(Wedding w, int year) {
        return w.year <= year && lives(w.man, year) && lives(w.woman, year);
    }

    int spouse(int person, int year) {
        Person p = person(person);
        for (Wedding w : weddings) {
            if (p != null && lasts(w, year)) {
                if (w.man == p) return people.indexOf(w.woman);
                if (w.woman == p) return people.indexOf(w.man);
            }
        }
        return -1;
    }

    int children(int person, int year) {
        Person p = person(person);
        if (p == null) return -1;
        return (int) people.stream().filter(q -> (q.mother == p || q.father == p) && q.birth <= year).count();
    }

    int living(int camp, int year, int c) {
        if (noCamp(camp) || c < -1 || c > 7) return -1;
        return (int) people.stream()
                .filter(p -> p.camp == camp && lives(p, year) && (c == -1 || classOf(p) == c)).count();
    }

    int marriages(int year, int right) {
        if (badYear(year) || right < 0 || right > 1) return -2;
        return (int) weddings.stream()
                .filter(w -> lasts(w, year) && right(w.man, w.woman, w.year) == (right == 1)).count();
    }

    int match(int camp, int year) {
        if (noCamp(camp)) return -1;
        if (badYear(year)) return -2;
        int size = people.size();
        boolean[][] may = new boolean[size][size];
        for (int m = 0; m < size; m++) {
            for (int w = 0; w < size; w++) {
                may[m][w] = people.get(m).camp == camp && people.get(w).camp == camp && may(m, w, year) == 0;
            }
        }
        couples = new int[size];
        java.util.Arrays.fill(couples, -1);
        boolean[] taken = new boolean[size];
        int greatest = most(may, taken, 0), had = 0;
        for (int m = 0; m < size; m++) {
            for (int w = 0; w < size && couples[m] < 0; w++) {
                if (!may[m][w] || taken[w]) continue;
                taken[w] = true;
                if (had + 1 + most(may, taken, m + 1) == greatest) {
                    couples[m] = w;
                    couples[w] = m;
                    had++;
                } else {
                    taken[w] = false;
                }
            }
        }
        findLack(may);
        return greatest;
    }

    /** The most couples of the men from a number on with women not taken. */
    private static int most(boolean[][] may, boolean[] taken, int from) {
        int[] husband = new int[may.length];
        java.util.Arrays.fill(husband, -1);
        int found = 0;
        for (int m = from; m < may.length; m++) {
            if (improve(may, m, husband, taken.clone())) found++;
        }
        return found;
    }

    private static boolean improve(boolean[][] may, int m, int[] husband, boolean[] seen) {
        for (int w = 0; w < may.length; w++) {
            if (!may[m][w] || seen[w]) continue;
            seen[w] = true;
            if (husband[w] < 0 || improve(may, husband[w], husband, seen)) {
                husband[w] = m;
                return true;
            }
        }
        return false;
    }

    private void findLack(boolean[][] may) {
        Set<Integer> men = new HashSet<>(), women = new HashSet<>();
        for (int m = 0; m < may.length; m++) {
            for (int w = 0; w < may.length; w++) {
                if (may[m][w] && couples[m] < 0) men.add(m);
            }
        }
        for (boolean more = true; more;) {
            more = false;
            for (int m : new ArrayList<>(men)) {
                for (int w = 0; w < may.length; w++) {
                    if (may[m][w]) {
                        women.add(w);
                        more |= couples[w] >= 0 && men.add(couples[w]);
                    }
                }
            }
        }
        lackMen = men.size();
        lackWomen = women.size();
    }

    int matched(int person) {
        return person < 0 || person >= couples.length ? -1 : couples[person];
    }

    int lack(int what) {
        return what == 0 ? lackMen : what == 1 ? lackWomen : -1;
    }

    int lay(int first, int second) {
        if (noSystem(first) || noSystem(second)) return -1;
        Sections x = systems.get(first), y = systems.get(second);
        if (x.n() != y.n()) return -3;
        List<int[]> all = new ArrayList<>();
        orders(new ArrayList<>(), x.n(), all);
        int best = -1;
        for (int[] on : all) {
            int agreed = 0;
            for (int c = 0; c < x.n(); c++) {
                if (on[x.wife[c]] == y.wife[on[c]]) agreed++;
                if (on[x.child[c]] == y.child[on[c]]) agreed++;
            }
            if (agreed > best) {
                best = agreed;
                laid = on;
            }
        }
        return best;
    }

    private static void orders(List<Integer> start, int n, List<int[]> all) {
        if (start.size() == n) {
            all.add(start.stream().mapToInt(i -> i).toArray());
        }
        for (int i = 0; i < n; i++) {
            if (!start.contains(i)) {
                List<Integer> next = new ArrayList<>(start);
                next.add(i);
                orders(next, n, all);
            }
        }
    }

    int lies(int c) {
        return c < 0 || c >= laid.length ? -1 : laid[c];
    }

    /** All fillings tried, told classes put for the strangers of none; null: there are too many. */
    private List<Set<Integer>> fillings() {
        List<Person> gaps = new ArrayList<>();
        for (Person p : people) {
            if (p.mother == null && p.told < 0) gaps.add(p);
        }
        if (gaps.size() > 4) return null;
        List<Set<Integer>> open = new ArrayList<>();
        for (int i = 0; i < people.size(); i++) open.add(new HashSet<>());
        tryGap(gaps, 0, open);
        gaps.forEach(p -> p.told = -1);
        return open;
    }

    private void tryGap(List<Person> gaps, int at, List<Set<Integer>> open) {
        if (at == gaps.size()) {
            List<Integer> classes = people.stream().map(this::classOf).toList();
            if (!classes.contains(-1)) {
                for (int i = 0; i < open.size(); i++) open.get(i).add(classes.get(i));
            }
            return;
        }
        Person p = gaps.get(at);
        for (int c = 0; c < lawOf(p.camp, p.birth).sections.n(); c++) {
            p.told = c;
            tryGap(gaps, at + 1, open);
        }
    }

    boolean canTell() {
        return fillings() != null;
    }

    int open(int person) {
        if (person(person) == null) return -1;
        return fillings().get(person).stream().mapToInt(c -> 1 << c).sum();
    }

    int sure() {
        List<Set<Integer>> open = fillings();
        if (open.contains(Collections.<Integer>emptySet())) return -5;
        return (int) open.stream().filter(set -> set.size() == 1).count();
    }

    int count(int what) {
        return switch (what) {
            case 0 -> systems.size();
            case 1 -> camps.size();
            case 2 -> people.size();
            case 3 -> weddings.size();
            case 4 -> age;
            case 5 -> tape.length();
            case 6 -> (int) people.stream().filter(p -> about(people.indexOf(p), 8) == 1).count();
            case 7 -> (int) people.stream().filter(p -> classOf(p) < 0).count();
            default -> -1;
        };
    }
}
