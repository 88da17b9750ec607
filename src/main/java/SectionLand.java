import java.util.Arrays;

/**
 * A land of peoples whose marriages and children go by classes that turn.
 * The document SectionLand (../shared/DOC.md) says what each call answers.
 */
public final class SectionLand {
    public static final int NONE = -1, BAD = -2, STATE = -3, FULL = -4;

    /** Answers "none such" where NONE is an answer of its own, and "no FILLING" of sure(). */
    private static final int NO_SUCH = -5;

    private static final int MAN = 0, WOMAN = 1;
    private static final int BY_MOTHER = 0;
    private static final int MAX_CLASSES = 8, MAX_SYSTEMS = 4, MAX_CAMPS = 3, MAX_LAWS = 5;
    private static final int MAX_PEOPLE = 48, MAX_WEDDINGS = 40;
    private static final int LAST_YEAR = 999, OLDEST_AGE = 40;
    private static final int YOUNGEST_PARENT = 12;
    /** A way's digits to the base 8: six steps at most. */
    private static final int STEP_BITS = 3, STEP_MASK = 7, WAY_BITS = 6 * STEP_BITS;

    private final Tape tape = new Tape();
    private final MarriageSystem[] systems = new MarriageSystem[MAX_SYSTEMS];
    private final Camp[] camps = new Camp[MAX_CAMPS];
    private final People people = new People();
    private final Weddings weddings = new Weddings();
    private final TurnGroup turns = new TurnGroup();
    private final Matching matching = new Matching();
    private final Overlay overlay = new Overlay();
    private final Gaps gaps = new Gaps();
    private int systemCount = 0;
    private int campCount = 0;
    private int marryAge = 16;

    public SectionLand() {
        for (int i = 0; i < MAX_SYSTEMS; i++) {
            systems[i] = new MarriageSystem();
        }
        for (int i = 0; i < MAX_CAMPS; i++) {
            camps[i] = new Camp();
        }
    }

    // ---- systems

    public int feed(long w, int n) {
        if (n < 1 || n > 8) {
            return BAD;
        }
        return tape.append(w, n) ? tape.size : FULL;
    }

    public int system() {
        if (systemCount >= MAX_SYSTEMS) {
            return FULL;
        }
        tape.judge();
        if (tape.faultKind == 0) {
            tape.writeTo(systems[systemCount]);
        }
        tape.size = 0;
        if (tape.faultKind != 0) {
            return -10 - tape.faultKind;
        }
        systemCount++;
        return systemCount - 1;
    }

    public int fault(int what) {
        switch (what) {
            case 0: return tape.faultKind;
            case 1: return tape.faultPlace;
            default: return NONE;
        }
    }

    public int table(int system, int c, int what) {
        if (!isClass(system, c)) {
            return NONE;
        }
        MarriageSystem s = systems[system];
        switch (what) {
            case 0: return s.wife[c];
            case 1: return s.childOfWoman[c];
            case 2: return s.childOfMan[c];
            case 3: return s.husband[c];
            case 4: return s.n;
            default: return NONE;
        }
    }

    public int kin(int system, int c, int sex, int way) {
        if (!isClass(system, c) || !isSex(sex) || !isWay(way)) {
            return NONE;
        }
        return systems[system].walk(c, sex, way) >> 1;
    }

    public int alike(int system, int sex, int way, int other) {
        if (!isSystem(system) || !isSex(sex) || !isWay(way) || !isWay(other)) {
            return NONE;
        }
        MarriageSystem s = systems[system];
        for (int c = 0; c < s.n; c++) {
            if (s.walk(c, sex, way) >> 1 != s.walk(c, sex, other) >> 1) {
                return 0;
            }
        }
        return 1;
    }

    public int home(int system, int sex, int way) {
        if (!isSystem(system) || !isSex(sex) || !isWay(way)) {
            return NONE;
        }
        MarriageSystem s = systems[system];
        if ((s.walk(0, sex, way) & 1) != sex) {
            return STATE;
        }
        return s.timesTillHome(sex, way);
    }

    public int brides(int system, int c, int steps) {
        if (!isClass(system, c)) {
            return NONE;
        }
        if (steps < 1 || steps > 4) {
            return BAD;
        }
        return systems[system].waysToWife(c, steps);
    }

    public int group(int system) {
        return isSystem(system) ? turns.sizeFor(systems[system]) : NONE;
    }

    public int half(int system, int set) {
        if (!isSystem(system)) {
            return NONE;
        }
        int all = (1 << systems[system].n) - 1;
        if (set <= 0 || set >= all) {
            return BAD;
        }
        return systems[system].halfBits(set);
    }

    public int halves(int system, int bits) {
        if (!isSystem(system)) {
            return NONE;
        }
        if (bits < 0 || bits > 7) {
            return BAD;
        }
        MarriageSystem s = systems[system];
        int all = (1 << s.n) - 1;
        int found = 0;
        for (int set = 1; set < all; set += 2) {
            if ((s.halfBits(set) & bits) == bits) {
                found++;
            }
        }
        return found;
    }

    // ---- camps and people

    public int camp(int system, int by) {
        if (!isSystem(system)) {
            return NONE;
        }
        if (by != 0 && by != 1) {
            return BAD;
        }
        if (campCount >= MAX_CAMPS) {
            return FULL;
        }
        camps[campCount].enact(0, system, by);
        campCount++;
        return campCount - 1;
    }

    public int law(int camp, int year, int system, int by) {
        if (!isCamp(camp) || !isSystem(system)) {
            return NONE;
        }
        if (year < 1 || year > LAST_YEAR || (by != 0 && by != 1)) {
            return BAD;
        }
        if (!camps[camp].enact(year, system, by)) {
            return FULL;
        }
        for (int p = 0; p < people.size; p++) {
            classify(p);
        }
        return camps[camp].lawCount;
    }

    public int stranger(int sex, int year, int camp, int c) {
        if (!isCamp(camp) || !isSex(sex)) {
            return NONE;
        }
        if (c != NONE && !isClass(systemAt(camp, year), c)) {
            return NONE;
        }
        if (!isYear(year)) {
            return BAD;
        }
        if (people.size >= MAX_PEOPLE) {
            return FULL;
        }
        int p = people.add(sex, year, camp);
        people.toldClass[p] = c;
        classify(p);
        return p;
    }

    public int born(int sex, int year, int mother, int father) {
        if (!isSex(sex) || !people.has(mother) || !people.has(father)) {
            return NONE;
        }
        if (!isYear(year) || people.sex[mother] != WOMAN || people.sex[father] != MAN) {
            return BAD;
        }
        if (!canBear(mother, father, year)) {
            return STATE;
        }
        if (people.size >= MAX_PEOPLE) {
            return FULL;
        }
        int p = people.add(sex, year, people.camp[mother]);
        people.mother[p] = mother;
        people.father[p] = father;
        classify(p);
        return p;
    }

    public int die(int person, int year) {
        if (!people.has(person)) {
            return NONE;
        }
        if (year <= people.birth[person] || year > LAST_YEAR + 1) {
            return BAD;
        }
        if (people.death[person] != NONE) {
            return STATE;
        }
        people.death[person] = year;
        return 0;
    }

    public int age(int years) {
        if (years < 0 || years > OLDEST_AGE) {
            return BAD;
        }
        int before = marryAge;
        marryAge = years;
        return before;
    }

    public int marry(int man, int woman, int year) {
        int hindrance = may(man, woman, year);
        if (hindrance < 0) {
            return hindrance;
        }
        if (hindrance >= 1 && hindrance <= 4) {
            return STATE;
        }
        if (!weddings.add(man, woman, year)) {
            return FULL;
        }
        return hindrance == 0 ? 1 : 0;
    }

    public int may(int man, int woman, int year) {
        if (!people.has(man) || !people.has(woman)) {
            return NONE;
        }
        if (!isYear(year) || people.sex[man] != MAN || people.sex[woman] != WOMAN) {
            return BAD;
        }
        int his = ownHindrance(man, year);
        int hers = ownHindrance(woman, year);
        if (his != 0 && hers != 0) {
            return Math.min(his, hers);
        }
        return his + hers != 0 ? his + hers : pairHindrance(man, woman, year);
    }

    public int about(int person, int what) {
        if (!people.has(person)) {
            return NO_SUCH;
        }
        switch (what) {
            case 0: return people.sex[person];
            case 1: return people.birth[person];
            case 2: return people.death[person];
            case 3: return people.camp[person];
            case 4: return people.mother[person];
            case 5: return people.father[person];
            case 6: return people.ownClass[person];
            case 7: return people.otherClass[person];
            case 8: return people.quarrels(person) ? 1 : 0;
            default: return NO_SUCH;
        }
    }

    public int spouse(int person, int year) {
        return people.has(person) ? weddings.partnerOf(people, person, year) : NONE;
    }

    public int children(int person, int year) {
        if (!people.has(person)) {
            return NONE;
        }
        int found = 0;
        for (int p = 0; p < people.size; p++) {
            if (people.isParent(person, p) && people.birth[p] <= year) {
                found++;
            }
        }
        return found;
    }

    public int living(int camp, int year, int c) {
        if (!isCamp(camp) || c < NONE || c >= MAX_CLASSES) {
            return NONE;
        }
        int found = 0;
        for (int p = 0; p < people.size; p++) {
            boolean meant = c == NONE || people.ownClass[p] == c;
            if (meant && people.camp[p] == camp && people.lives(p, year)) {
                found++;
            }
        }
        return found;
    }

    public int marriages(int year, int right) {
        if (!isYear(year) || (right != 0 && right != 1)) {
            return BAD;
        }
        int found = 0;
        for (int i = 0; i < weddings.size; i++) {
            if (weddings.lasts(people, i, year)
                    && isRight(weddings.man[i], weddings.woman[i], weddings.year[i]) == (right == 1)) {
                found++;
            }
        }
        return found;
    }

    // ---- matchings

    public int match(int camp, int year) {
        if (!isCamp(camp)) {
            return NONE;
        }
        if (!isYear(year)) {
            return BAD;
        }
        matching.clear();
        for (int man = 0; man < people.size; man++) {
            if (isReady(man, MAN, camp, year)) {
                noteBrides(man, camp, year);
            }
        }
        return matching.solve();
    }

    public int matched(int person) {
        return people.has(person) ? matching.partner[person] : NONE;
    }

    public int lack(int what) {
        switch (what) {
            case 0: return matching.lackingMen;
            case 1: return matching.lackingWomen;
            default: return NONE;
        }
    }

    // ---- laid on one another, gaps

    public int lay(int first, int second) {
        if (!isSystem(first) || !isSystem(second)) {
            return NONE;
        }
        if (systems[first].n != systems[second].n) {
            return STATE;
        }
        return overlay.fit(systems[first], systems[second]);
    }

    public int lies(int c) {
        return c >= 0 && c < overlay.n ? overlay.best[c] : NONE;
    }

    public int open(int person) {
        if (!people.has(person)) {
            return NONE;
        }
        return fillGaps() ? gaps.openBits[person] : 0;
    }

    public int sure() {
        if (!fillGaps()) {
            return NO_SUCH;
        }
        int found = 0;
        for (int p = 0; p < people.size; p++) {
            if (Integer.bitCount(gaps.openBits[p]) == 1) {
                found++;
            }
        }
        return found;
    }

    public int count(int what) {
        switch (what) {
            case 0: return systemCount;
            case 1: return campCount;
            case 2: return people.size;
            case 3: return weddings.size;
            case 4: return marryAge;
            case 5: return tape.size;
            case 6: return people.howManyQuarrel();
            case 7: return people.howManyClassless();
            default: return NONE;
        }
    }

    // ---- what the calls share

    private boolean isSystem(int system) {
        return system >= 0 && system < systemCount;
    }

    private boolean isClass(int system, int c) {
        return isSystem(system) && systems[system].has(c);
    }

    private boolean isCamp(int camp) {
        return camp >= 0 && camp < campCount;
    }

    private static boolean isSex(int sex) {
        return sex == MAN || sex == WOMAN;
    }

    private static boolean isYear(int year) {
        return year >= 0 && year <= LAST_YEAR;
    }

    private static boolean isWay(int way) {
        if (way <= 0 || way >= 1 << WAY_BITS) {
            return false;
        }
        for (int shift = 0; shift < WAY_BITS && way >> shift != 0; shift += STEP_BITS) {
            int step = way >> shift & STEP_MASK;
            if (step < MarriageSystem.FATHER || step > MarriageSystem.DAUGHTER) {
                return false;
            }
        }
        return true;
    }

    /** The number of the system that holds in a camp in a year. */
    private int systemAt(int camp, int year) {
        return camps[camp].system[camps[camp].lawAt(year)];
    }

    /** The system by which a person's class goes. */
    private MarriageSystem birthSystem(int p) {
        return systems[systemAt(people.camp[p], people.birth[p])];
    }

    private boolean isByMother(int p) {
        Camp home = camps[people.camp[p]];
        return home.by[home.lawAt(people.birth[p])] == BY_MOTHER;
    }

    /** Parents come ahead of their children by number, so one sweep upward classifies all. */
    private void classify(int p) {
        if (people.isStranger(p)) {
            people.ownClass[p] = people.toldClass[p];
            people.otherClass[p] = NONE;
            return;
        }
        MarriageSystem s = birthSystem(p);
        int byMother = s.childOf(people.ownClass[people.mother[p]], WOMAN);
        int byFather = s.childOf(people.ownClass[people.father[p]], MAN);
        boolean motherRules = isByMother(p);
        people.ownClass[p] = motherRules ? byMother : byFather;
        people.otherClass[p] = motherRules ? byFather : byMother;
    }

    private boolean canBear(int mother, int father, int year) {
        if (!people.lives(mother, year)) {
            return false;
        }
        if (!people.lives(father, year - 1) && !people.lives(father, year)) {
            return false;
        }
        return year - people.birth[mother] >= YOUNGEST_PARENT
                && year - people.birth[father] >= YOUNGEST_PARENT;
    }

    /** What hinders one, whomever one would marry: 1 to 3; 0: nothing. */
    private int ownHindrance(int p, int year) {
        if (!people.lives(p, year)) {
            return 1;
        }
        if (year - people.birth[p] < marryAge) {
            return 2;
        }
        return weddings.partnerOf(people, p, year) != NONE ? 3 : 0;
    }

    private int pairHindrance(int man, int woman, int year) {
        if (people.areNear(man, woman)) {
            return 4;
        }
        return isRight(man, woman, year) ? 0 : 5;
    }

    private boolean isRight(int man, int woman, int year) {
        MarriageSystem s = systems[systemAt(people.camp[woman], year)];
        int his = people.ownClass[man];
        return s.has(his) && s.wife[his] == people.ownClass[woman];
    }

    private boolean isReady(int p, int sex, int camp, int year) {
        return people.sex[p] == sex && people.camp[p] == camp && ownHindrance(p, year) == 0;
    }

    private void noteBrides(int man, int camp, int year) {
        for (int woman = 0; woman < people.size; woman++) {
            if (isReady(woman, WOMAN, camp, year) && pairHindrance(man, woman, year) == 0) {
                matching.allow(man, woman);
            }
        }
    }

    /**
     * Each child's class hangs on one parent alone, so the people are trees with strangers as
     * their roots: one class tried for all roots at a time tries all that matters.
     */
    private boolean fillGaps() {
        gaps.clear(people.size);
        for (int rootClass = 0; rootClass < MAX_CLASSES; rootClass++) {
            for (int p = 0; p < people.size; p++) {
                if (people.isStranger(p)) {
                    gaps.plant(p, rootClass, mayBeOf(p, rootClass));
                } else {
                    growChild(p);
                }
            }
            gaps.harvest(people.size);
        }
        return gaps.areAllFilled(people.size);
    }

    private boolean mayBeOf(int stranger, int c) {
        int told = people.toldClass[stranger];
        return told != NONE ? told == c : birthSystem(stranger).has(c);
    }

    private void growChild(int p) {
        boolean motherRules = isByMother(p);
        int parent = motherRules ? people.mother[p] : people.father[p];
        int made = birthSystem(p).childOf(gaps.tried[parent], motherRules ? WOMAN : MAN);
        gaps.branch(p, parent, made);
    }

    /** The classes and whom they marry and bear; a place is a class and a sex, 2 * class + sex. */
    private static final class MarriageSystem {
        static final int FATHER = 1, MOTHER = 2, SPOUSE = 3, SON = 4, DAUGHTER = 5;

        /** No turning of 8 classes needs more times than this, the least common multiple of 1 .. 8. */
        private static final int MOST_TIMES = 840;

        final int[] wife = new int[MAX_CLASSES];
        final int[] husband = new int[MAX_CLASSES];
        final int[] childOfWoman = new int[MAX_CLASSES];
        final int[] childOfMan = new int[MAX_CLASSES];
        final int[] mother = new int[MAX_CLASSES];
        final int[] father = new int[MAX_CLASSES];
        private final int[] now = new int[2 * MAX_CLASSES];
        private final int[] next = new int[2 * MAX_CLASSES];
        int n = 0;

        void addRule(int man, int woman, int child) {
            wife[man] = woman;
            husband[woman] = man;
            childOfWoman[woman] = child;
            childOfMan[man] = child;
            mother[child] = woman;
            father[child] = man;
            n++;
        }

        boolean has(int c) {
            return c >= 0 && c < n;
        }

        /** NONE, if the parent's class is none of this system. */
        int childOf(int c, int sex) {
            if (!has(c)) {
                return NONE;
            }
            return sex == WOMAN ? childOfWoman[c] : childOfMan[c];
        }

        private int stepFrom(int place, int step) {
            int c = place >> 1;
            int sex = place & 1;
            switch (step) {
                case FATHER: return 2 * father[c] + MAN;
                case MOTHER: return 2 * mother[c] + WOMAN;
                case SPOUSE: return sex == MAN ? 2 * wife[c] + WOMAN : 2 * husband[c] + MAN;
                case SON: return 2 * childOf(c, sex) + MAN;
                default: return 2 * childOf(c, sex) + WOMAN;
            }
        }

        /** The place to which a way leads. */
        int walk(int c, int sex, int way) {
            int place = 2 * c + sex;
            for (int shift = 0; shift < WAY_BITS && way >> shift != 0; shift += STEP_BITS) {
                place = stepFrom(place, way >> shift & STEP_MASK);
            }
            return place;
        }

        /** For a way that keeps the sex. */
        int timesTillHome(int sex, int way) {
            for (int c = 0; c < n; c++) {
                now[c] = c;
            }
            for (int times = 1; times < MOST_TIMES; times++) {
                boolean isHome = true;
                for (int c = 0; c < n; c++) {
                    now[c] = walk(now[c], sex, way) >> 1;
                    isHome = isHome && now[c] == c;
                }
                if (isHome) {
                    return times;
                }
            }
            return MOST_TIMES;
        }

        /** How many ways of so many steps lead a man of a class to a woman of his wife's class. */
        int waysToWife(int c, int steps) {
            Arrays.fill(now, 0);
            now[2 * c + MAN] = 1;
            for (int i = 0; i < steps; i++) {
                Arrays.fill(next, 0);
                for (int place = 0; place < 2 * n; place++) {
                    for (int step = FATHER; step <= DAUGHTER; step++) {
                        next[stepFrom(place, step)] += now[place];
                    }
                }
                System.arraycopy(next, 0, now, 0, 2 * n);
            }
            return now[2 * wife[c] + WOMAN];
        }

        int halfBits(int set) {
            boolean crossed = true;
            boolean mothers = true;
            boolean fathers = true;
            for (int c = 0; c < n; c++) {
                int side = set >> c & 1;
                crossed = crossed && (set >> wife[c] & 1) != side;
                mothers = mothers && (set >> childOfWoman[c] & 1) == side;
                fathers = fathers && (set >> childOfMan[c] & 1) == side;
            }
            return (crossed ? 1 : 0) + (mothers ? 2 : 0) + (fathers ? 4 : 0);
        }
    }

    /** The bytes fed so far, and the fault of the latest text read from them. */
    private static final class Tape {
        private static final int MOST_BYTES = 60;

        /** A rule and the ; behind it; the least text has two rules, the longest eight. */
        private static final int RULE_SIZE = 6;
        private static final int LEAST_TEXT = 2 * RULE_SIZE - 1;
        private static final int LONGEST_TEXT = MAX_CLASSES * RULE_SIZE - 1;

        private final int[] bytes = new int[MOST_BYTES];
        int size = 0;
        int faultKind = 0;
        int faultPlace = NONE;

        boolean append(long w, int n) {
            if (size + n > MOST_BYTES) {
                return false;
            }
            for (int i = n - 1; i >= 0; i--) {
                bytes[size] = (int) (w >>> 8 * i & 255);
                size++;
            }
            return true;
        }

        void judge() {
            faultKind = 1;
            faultPlace = firstMisfit();
            if (faultPlace == NONE) {
                faultKind = 2;
                faultPlace = firstStrangeLetter();
            }
            if (faultPlace == NONE) {
                faultKind = 3;
                faultPlace = firstRepeatedLetter();
            }
            if (faultPlace == NONE) {
                faultKind = 0;
            }
        }

        /** Only for a text without fault. */
        void writeTo(MarriageSystem s) {
            for (int i = 0; i + 4 < size; i += RULE_SIZE) {
                s.addRule(bytes[i] - 'a', bytes[i + 2] - 'a', bytes[i + 4] - 'a');
            }
        }

        private int firstMisfit() {
            for (int i = 0; i < size; i++) {
                if (!fits(i)) {
                    return i;
                }
            }
            boolean isWhole = size >= LEAST_TEXT && size % RULE_SIZE == RULE_SIZE - 1;
            return isWhole ? NONE : size;
        }

        private boolean fits(int i) {
            if (i >= LONGEST_TEXT) {
                return false;
            }
            switch (i % RULE_SIZE) {
                case 1: return bytes[i] == '+';
                case 3: return bytes[i] == '=';
                case 5: return bytes[i] == ';';
                default: return bytes[i] >= 'a' && bytes[i] <= 'h';
            }
        }

        /** In a text that fits, letters stand at the even places. */
        private int firstStrangeLetter() {
            int n = (size + 1) / RULE_SIZE;
            for (int i = 0; i < size; i += 2) {
                if (bytes[i] - 'a' >= n) {
                    return i;
                }
            }
            return NONE;
        }

        private int firstRepeatedLetter() {
            for (int i = RULE_SIZE; i < size; i += 2) {
                for (int j = i - RULE_SIZE; j >= 0; j -= RULE_SIZE) {
                    if (bytes[j] == bytes[i]) {
                        return i;
                    }
                }
            }
            return NONE;
        }
    }

    /** Counts a system's group by finding its turnings, each as 3 bits a class in one number. */
    private static final class TurnGroup {
        private static final int MOST_TURNS = 1000;
        private static final int SLOTS = 2048;
        private static final int SPREAD = 0x9E3779B1;

        private final int[] turns = new int[MOST_TURNS];
        /** Each turning found, and 1, at the first free slot behind where its hash points. */
        private final int[] slots = new int[SLOTS];
        private int size = 0;

        /** The child of a man's class is wife, then child of a woman's, so two turnings make all. */
        int sizeFor(MarriageSystem s) {
            Arrays.fill(slots, 0);
            size = 0;
            add(identity(s.n));
            for (int i = 0; i < size && size < MOST_TURNS; i++) {
                add(turned(turns[i], s.wife, s.n));
                add(turned(turns[i], s.childOfWoman, s.n));
            }
            return size;
        }

        private static int identity(int n) {
            int turn = 0;
            for (int c = 0; c < n; c++) {
                turn |= c << 3 * c;
            }
            return turn;
        }

        private static int turned(int turn, int[] table, int n) {
            int result = 0;
            for (int c = 0; c < n; c++) {
                result |= table[turn >> 3 * c & 7] << 3 * c;
            }
            return result;
        }

        private void add(int turn) {
            int slot = (turn * SPREAD) >>> 21;
            for (int tries = 0; tries < SLOTS && slots[slot] != 0; tries++) {
                if (slots[slot] == turn + 1) {
                    return;
                }
                slot = (slot + 1) % SLOTS;
            }
            if (size < MOST_TURNS) {
                slots[slot] = turn + 1;
                turns[size] = turn;
                size++;
            }
        }
    }

    /** The laws of a camp by year; the first is from year 0 on and stays. */
    private static final class Camp {
        private final int[] from = new int[MAX_LAWS];
        final int[] system = new int[MAX_LAWS];
        final int[] by = new int[MAX_LAWS];
        int lawCount = 0;

        /** False, if there is no room. */
        boolean enact(int year, int systemNumber, int byWhom) {
            int place = lawFrom(year);
            if (place == NONE) {
                if (lawCount >= MAX_LAWS) {
                    return false;
                }
                place = lawCount;
                lawCount++;
            }
            from[place] = year;
            system[place] = systemNumber;
            by[place] = byWhom;
            return true;
        }

        private int lawFrom(int year) {
            for (int i = 0; i < lawCount; i++) {
                if (from[i] == year) {
                    return i;
                }
            }
            return NONE;
        }

        /** The place of the law of a year. */
        int lawAt(int year) {
            int latest = 0;
            for (int i = 1; i < lawCount; i++) {
                if (from[i] <= year && from[i] > from[latest]) {
                    latest = i;
                }
            }
            return latest;
        }
    }

    private static final class People {
        final int[] sex = new int[MAX_PEOPLE];
        final int[] birth = new int[MAX_PEOPLE];
        final int[] death = new int[MAX_PEOPLE];
        final int[] camp = new int[MAX_PEOPLE];
        final int[] mother = new int[MAX_PEOPLE];
        final int[] father = new int[MAX_PEOPLE];
        final int[] toldClass = new int[MAX_PEOPLE];
        final int[] ownClass = new int[MAX_PEOPLE];
        final int[] otherClass = new int[MAX_PEOPLE];
        int size = 0;

        /** Only while there is room. */
        int add(int itsSex, int year, int itsCamp) {
            int p = size;
            sex[p] = itsSex;
            birth[p] = year;
            death[p] = NONE;
            camp[p] = itsCamp;
            mother[p] = NONE;
            father[p] = NONE;
            toldClass[p] = NONE;
            ownClass[p] = NONE;
            otherClass[p] = NONE;
            size++;
            return p;
        }

        boolean has(int p) {
            return p >= 0 && p < size;
        }

        boolean isStranger(int p) {
            return mother[p] == NONE;
        }

        boolean lives(int p, int year) {
            return year >= birth[p] && (death[p] == NONE || year < death[p]);
        }

        boolean isParent(int parent, int child) {
            return mother[child] == parent || father[child] == parent;
        }

        boolean areNear(int p, int q) {
            if (isParent(p, q) || isParent(q, p)) {
                return true;
            }
            return !isStranger(p) && (mother[p] == mother[q] || father[p] == father[q]);
        }

        boolean quarrels(int p) {
            return ownClass[p] != NONE && otherClass[p] != NONE && ownClass[p] != otherClass[p];
        }

        int howManyQuarrel() {
            int found = 0;
            for (int p = 0; p < size; p++) {
                if (quarrels(p)) {
                    found++;
                }
            }
            return found;
        }

        int howManyClassless() {
            int found = 0;
            for (int p = 0; p < size; p++) {
                if (ownClass[p] == NONE) {
                    found++;
                }
            }
            return found;
        }
    }

    private static final class Weddings {
        final int[] man = new int[MAX_WEDDINGS];
        final int[] woman = new int[MAX_WEDDINGS];
        final int[] year = new int[MAX_WEDDINGS];
        int size = 0;

        /** False, if there is no room. */
        boolean add(int itsMan, int itsWoman, int itsYear) {
            if (size >= MAX_WEDDINGS) {
                return false;
            }
            man[size] = itsMan;
            woman[size] = itsWoman;
            year[size] = itsYear;
            size++;
            return true;
        }

        boolean lasts(People people, int i, int inYear) {
            return inYear >= year[i] && people.lives(man[i], inYear) && people.lives(woman[i], inYear);
        }

        /** A wedding in an earlier year can be told later: of several that last, the first told. */
        int partnerOf(People people, int p, int inYear) {
            for (int i = 0; i < size; i++) {
                if ((man[i] == p || woman[i] == p) && lasts(people, i, inYear)) {
                    return man[i] == p ? woman[i] : man[i];
                }
            }
            return NONE;
        }
    }

    /** The greatest matching, with sets of people as the bits of a long. */
    private static final class Matching {
        /** Of each man the women whom he may marry. */
        private final long[] brides = new long[MAX_PEOPLE];
        final int[] partner = new int[MAX_PEOPLE];
        private final int[] queue = new int[MAX_PEOPLE];
        private final int[] reachedFrom = new int[MAX_PEOPLE];
        private int queued = 0;
        private long settledMen = 0;
        private long settledWomen = 0;
        int lackingMen = 0;
        int lackingWomen = 0;

        Matching() {
            Arrays.fill(partner, NONE);
        }

        void clear() {
            Arrays.fill(brides, 0L);
            Arrays.fill(partner, NONE);
            settledMen = 0;
            settledWomen = 0;
        }

        void allow(int man, int woman) {
            brides[man] |= 1L << woman;
        }

        int solve() {
            int couples = 0;
            while (couples < MAX_PEOPLE && findOneMore()) {
                couples++;
            }
            for (int man = 0; man < MAX_PEOPLE; man++) {
                settle(man);
            }
            findLack();
            return couples;
        }

        private static boolean isIn(long set, int p) {
            return (set >>> p & 1) != 0;
        }

        private void queueLoneMen() {
            queued = 0;
            for (int man = 0; man < MAX_PEOPLE; man++) {
                if (brides[man] != 0 && partner[man] == NONE && !isIn(settledMen, man)) {
                    queue[queued] = man;
                    queued++;
                }
            }
        }

        /** Searches from all lone men at once for a chain of changes that makes one couple more. */
        private boolean findOneMore() {
            queueLoneMen();
            long seen = settledWomen;
            for (int at = 0; at < queued && at < MAX_PEOPLE; at++) {
                long fresh = brides[queue[at]] & ~seen;
                seen |= fresh;
                for (int woman = 0; fresh >>> woman != 0 && woman < MAX_PEOPLE; woman++) {
                    if (!isIn(fresh, woman)) {
                        continue;
                    }
                    reachedFrom[woman] = queue[at];
                    if (partner[woman] == NONE) {
                        changeAlong(woman);
                        return true;
                    }
                    enqueue(partner[woman]);
                }
            }
            return false;
        }

        private void enqueue(int man) {
            if (queued < MAX_PEOPLE) {
                queue[queued] = man;
                queued++;
            }
        }

        private void changeAlong(int lastWoman) {
            int woman = lastWoman;
            for (int i = 0; i < MAX_PEOPLE && woman != NONE; i++) {
                int man = reachedFrom[woman];
                int left = partner[man];
                couple(man, woman);
                woman = left;
            }
        }

        private void couple(int man, int woman) {
            partner[man] = woman;
            partner[woman] = man;
        }

        /** The man gets the first woman with whom there can still be as many couples, for good. */
        private void settle(int man) {
            settledMen |= 1L << man;
            long choice = brides[man] & ~settledWomen;
            for (int woman = 0; choice >>> woman != 0 && woman < MAX_PEOPLE; woman++) {
                if (isIn(choice, woman) && give(man, woman)) {
                    return;
                }
            }
        }

        /** Makes them a couple, if there can still be as many couples. */
        private boolean give(int man, int woman) {
            int left = partner[man];
            int rival = partner[woman];
            settledWomen |= 1L << woman;
            if (rival == man) {
                return true;
            }
            if (left != NONE) {
                partner[left] = NONE;
            }
            if (rival != NONE) {
                partner[rival] = NONE;
            }
            couple(man, woman);
            // With one of both alone before, one couple went and one came.
            if (left == NONE || rival == NONE || findOneMore()) {
                return true;
            }
            couple(man, left);
            couple(rival, woman);
            settledWomen &= ~(1L << woman);
            return false;
        }

        private void findLack() {
            settledMen = 0;
            queueLoneMen();
            long women = 0;
            for (int at = 0; at < queued && at < MAX_PEOPLE; at++) {
                long fresh = brides[queue[at]] & ~women;
                women |= fresh;
                for (int woman = 0; fresh >>> woman != 0 && woman < MAX_PEOPLE; woman++) {
                    if (isIn(fresh, woman) && partner[woman] != NONE) {
                        enqueue(partner[woman]);
                    }
                }
            }
            lackingMen = queued;
            lackingWomen = Long.bitCount(women);
        }
    }

    /** The best way to lay one system on another. */
    private static final class Overlay {
        final int[] best = new int[MAX_CLASSES];
        private final int[] on = new int[MAX_CLASSES];
        private int used = 0;
        private int bestAgreed = NONE;
        int n = 0;

        int fit(MarriageSystem first, MarriageSystem second) {
            n = first.n;
            used = 0;
            bestAgreed = NONE;
            layFrom(first, second, 0, 0);
            return bestAgreed;
        }

        /** Classes below c lie; the least places come first, so of equals the first found stays. */
        private void layFrom(MarriageSystem first, MarriageSystem second, int c, int missed) {
            if (2 * n - missed <= bestAgreed) {
                return;
            }
            if (c >= n) {
                bestAgreed = 2 * n - missed;
                System.arraycopy(on, 0, best, 0, n);
                return;
            }
            for (int d = 0; d < n; d++) {
                if ((used >> d & 1) == 0) {
                    on[c] = d;
                    used |= 1 << d;
                    int more = missedAt(first.wife, first.husband, second.wife, c)
                            + missedAt(first.childOfWoman, first.mother, second.childOfWoman, c);
                    layFrom(first, second, c + 1, missed + more);
                    used &= ~(1 << d);
                }
            }
        }

        /** Of the pairs of a table that lie as c does, and did not before, how many do not agree. */
        private int missedAt(int[] first, int[] firstBack, int[] second, int c) {
            int missed = 0;
            if (first[c] <= c && on[first[c]] != second[on[c]]) {
                missed++;
            }
            int before = firstBack[c];
            if (before < c && on[c] != second[on[before]]) {
                missed++;
            }
            return missed;
        }
    }

    /** What each one's class would be for a class tried at the roots, and what is open by now. */
    private static final class Gaps {
        final int[] tried = new int[MAX_PEOPLE];
        final int[] openBits = new int[MAX_PEOPLE];
        private final int[] root = new int[MAX_PEOPLE];
        private final boolean[] fails = new boolean[MAX_PEOPLE];

        void clear(int size) {
            for (int p = 0; p < size; p++) {
                openBits[p] = 0;
            }
        }

        void plant(int p, int c, boolean fits) {
            root[p] = p;
            tried[p] = fits ? c : NONE;
            fails[p] = !fits;
        }

        void branch(int p, int parent, int made) {
            root[p] = root[parent];
            tried[p] = made;
            if (made == NONE) {
                fails[root[p]] = true;
            }
        }

        void harvest(int size) {
            for (int p = 0; p < size; p++) {
                if (!fails[root[p]]) {
                    openBits[p] |= 1 << tried[p];
                }
            }
        }

        boolean areAllFilled(int size) {
            for (int p = 0; p < size; p++) {
                if (openBits[p] == 0) {
                    return false;
                }
            }
            return true;
        }
    }
}
