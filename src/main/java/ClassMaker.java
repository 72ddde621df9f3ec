import java.util.Arrays;
import java.util.NoSuchElementException;

/** A room in which a year's children are made into classes; ../shared/DOC.md says what each call answers. */
public final class ClassMaker {
    public static final int NONE = -1;

    private static final int NOT_ALLOWED = -2;
    private static final int TOO_MANY = -3;
    private static final int LACKING = -4;

    private static final int MOST_CHILDREN = 14;
    private static final int MOST_CLASSES = 3;
    private static final int PLACES = 3;
    private static final int LEFT = 3;
    private static final int MOST_OWED = 99;
    private static final int LAST_DAY = 100000;

    // The words of the language by their places in WORDS; kinds of statements and of terms are told by them too.
    private static final String WORDS =
        "sex month gift need owed wishes named tag even sum friend alone regret apart most least twins joined free not and from ";
    private static final int SEX = 0;
    private static final int MONTH = 1;
    private static final int GIFT = 2;
    private static final int NEED = 3;
    private static final int OWED = 4;
    private static final int WISHES = 5;
    private static final int NAMED = 6;
    private static final int TAG = 7;
    private static final int EVEN = 8;
    private static final int SUM = 9;
    private static final int FRIEND = 10;
    private static final int ALONE = 11;
    private static final int REGRET = 12;
    private static final int APART = 13;
    private static final int MOST = 14;
    private static final int LEAST = 15;
    private static final int TWINS = 16;
    private static final int JOINED = 17;
    private static final int FREE = 18;
    private static final int NOT = 19;
    private static final int AND = 20;
    private static final int FROM = 21;

    private final Facts facts;
    private final Marks marks;
    private final Tape tape;
    private final Parser parser;
    private final Judge judge;
    private final Search search;
    private final Hand hand;
    private final Helpers helpers;
    private final Book book;
    /** THE LIST: the class of each child on it. */
    private final int[] list;
    private final int[] groups;
    private Rules rules;
    private Rules draft;
    private int today;
    private int years;
    private int stepsTaken;
    // The last best plan is held, since plan and planned ask for it child by child.
    private boolean bestKnown;
    private int bestDay;
    private int bestAnswer;

    public ClassMaker() {
        facts = new Facts();
        marks = new Marks();
        tape = new Tape();
        parser = new Parser(tape);
        judge = new Judge(facts, marks);
        search = new Search(facts, judge);
        hand = new Hand(facts, judge);
        helpers = new Helpers();
        book = new Book();
        list = new int[MOST_CHILDREN];
        Arrays.fill(list, NONE);
        groups = new int[MOST_CLASSES];
        rules = new Rules();
        draft = new Rules();
        stepsTaken = NONE;
    }

    public int child(int sex, int month, int tags) {
        if (!within(sex, 0, 1) || !within(month, 1, 12) || !within(tags, 0, 255)) {
            return NONE;
        }
        bestKnown = false;
        return facts.admit(sex, month, tags, today);
    }

    public boolean mark(int teacher, int child, int what, int v) {
        if (!within(teacher, 0, Marks.TEACHERS - 1) || !facts.has(child) || !within(what, 0, 1) || !within(v, 0, 100)) {
            return false;
        }
        bestKnown = false;
        return marks.add(teacher, child, what, v, today);
    }

    public boolean wish(int child, int place, int other) {
        if (!facts.has(child) || !within(place, 0, PLACES - 1)) {
            return false;
        }
        if (other != NONE && !facts.areTwo(child, other)) {
            return false;
        }
        bestKnown = false;
        facts.wishes[child * PLACES + place] = other;
        return true;
    }

    public boolean bar(int a, int b, boolean is) {
        bestKnown = false;
        return facts.areTwo(a, b) && setPair(facts.bars, a, b, is);
    }

    public boolean twins(int a, int b, boolean is) {
        bestKnown = false;
        return facts.areTwo(a, b) && setPair(facts.twins, a, b, is);
    }

    public boolean not(int child, int c, boolean is) {
        if (!facts.has(child) || !within(c, 0, MOST_CLASSES - 1)) {
            return false;
        }
        bestKnown = false;
        return setBit(facts.nots, c, child, is);
    }

    public boolean classes(int n) {
        if (!within(n, 2, MOST_CLASSES)) {
            return false;
        }
        for (int child = 0; child < MOST_CHILDREN; child++) {
            if (list[child] >= n) {
                return false;
            }
        }
        bestKnown = false;
        facts.classCount = n;
        return true;
    }

    public boolean room(int c, int v) {
        if (!within(c, 0, MOST_CLASSES - 1) || !within(v, 0, MOST_CHILDREN)) {
            return false;
        }
        bestKnown = false;
        facts.room[c] = v;
        return true;
    }

    public int feed(int a, int b, int c, int d, int e) {
        if (!tape.hasSpace(20)) {
            return NONE;
        }
        tape.append(a);
        tape.append(b);
        tape.append(c);
        tape.append(d);
        tape.append(e);
        return tape.length;
    }

    public int end(int n) {
        if (!within(n, 0, tape.length)) {
            return NONE;
        }
        tape.length = n;
        return n;
    }

    public int rule() {
        boolean fit = parser.reads(draft);
        tape.length = 0;
        if (!fit) {
            return -1 - parser.fault;
        }
        Rules old = rules;
        rules = draft;
        draft = old;
        bestKnown = false;
        return rules.count;
    }

    public int place() {
        return parser.faultPlace;
    }

    public int holds(int s, int which, int child, int known) {
        if (!within(s, 0, rules.count - 1) || !within(which, 0, 1) || !facts.has(child) || !isDay(known)) {
            return NONE;
        }
        if (!rules.takesTerms(s, which)) {
            return NONE;
        }
        judge.prepare(rules, known);
        return judge.meets(s * 2 + which, child) ? 1 : 0;
    }

    public int day(int n) {
        if (!within(n, 0, 1000) || today + n > LAST_DAY) {
            return NONE;
        }
        if (n > 0) {
            book.write(list, facts.count, today);
        }
        bestKnown = false;
        today += n;
        return today;
    }

    public int plan(int known) {
        return bestPlan(known);
    }

    public int planned(int known, int child) {
        if (bestPlan(known) < 0) {
            return NONE;
        }
        return search.seatOf(child);
    }

    public int keep() {
        int harm = bestPlan(today);
        if (harm >= 0) {
            takeSearched();
        }
        return harm;
    }

    public int make() {
        if (facts.count == 0) {
            return NONE;
        }
        judge.prepare(rules, today);
        if (!hand.starts()) {
            return NOT_ALLOWED;
        }
        hand.improve();
        stepsTaken = hand.taken;
        for (int child = 0; child < facts.count; child++) {
            list[child] = hand.seats[child];
        }
        return hand.lack != 0 ? LACKING : hand.harm;
    }

    public int steps() {
        return stepsTaken;
    }

    public int late(int child) {
        if (!facts.has(child) || list[child] != NONE) {
            return NONE;
        }
        judge.prepare(rules, today);
        gatherList();
        int best = NOT_ALLOWED;
        int least = 0;
        for (int k = 0; k < facts.classCount; k++) {
            groups[k] |= 1 << child;
            if (judge.allows(groups)) {
                int harm = judge.harmOf(groups);
                if (best < 0 || harm < least) {
                    best = k;
                    least = harm;
                }
            }
            groups[k] &= ~(1 << child);
        }
        if (best >= 0) {
            list[child] = best;
        }
        return best;
    }

    public int change() {
        int listed = countListed();
        if (listed == 0) {
            return NONE;
        }
        if (listed > Search.MOST_MEMBERS) {
            return TOO_MANY;
        }
        bestKnown = false;
        judge.prepare(rules, today);
        search.begin();
        for (int child = 0; child < facts.count; child++) {
            if (list[child] != NONE) {
                search.admit(child, list[child]);
            }
        }
        search.run();
        if (!search.found) {
            return NOT_ALLOWED;
        }
        takeSearched();
        return search.bestMoves;
    }

    public int classOf(int child) {
        return facts.has(child) ? list[child] : NONE;
    }

    public int was(int child, int day) {
        if (!facts.has(child) || !isDay(day)) {
            return NONE;
        }
        return day == today ? list[child] : book.seatAt(child, day);
    }

    public int served(int child) {
        if (!facts.has(child) || list[child] == NONE) {
            return NONE;
        }
        gatherList();
        return facts.bestWish(child, groups[list[child]]);
    }

    public int harm(int s) {
        if (countListed() == 0 || !within(s, NONE, rules.count - 1)) {
            return NONE;
        }
        judge.prepare(rules, today);
        gatherList();
        return s == NONE ? judge.harmOf(groups) : judge.harmBy(s, groups);
    }

    public int allowed(int what) {
        if (countListed() == 0 || !within(what, 0, 1)) {
            return NONE;
        }
        judge.prepare(rules, today);
        gatherList();
        if (what == 1) {
            return judge.lackOf(groups);
        }
        return judge.allows(groups) ? 1 : 0;
    }

    public int swaps() {
        return searchSwaps(-1);
    }

    public int swap(int i, int what) {
        if (i < 0 || !within(what, 0, 1)) {
            return NONE;
        }
        int pair = searchSwaps(i);
        if (pair == NONE) {
            return NONE;
        }
        return what == 0 ? pair / MOST_CHILDREN : pair % MOST_CHILDREN;
    }

    public int lie(int child, int place) throws NoSuchElementException {
        if (!facts.has(child) || !within(place, 0, PLACES - 1)) {
            throw new NoSuchElementException("no such child or place");
        }
        int row = child * PLACES;
        if (facts.wishes[row + place] == NONE) {
            throw new NoSuchElementException("the wish is none");
        }
        int first = facts.wishes[row];
        int second = facts.wishes[row + 1];
        int third = facts.wishes[row + 2];
        for (int p = 0; p < PLACES; p++) {
            if (p != place) {
                facts.wishes[row + p] = NONE;
            }
        }
        bestKnown = false;
        int harm = bestPlan(today);
        bestKnown = false;
        facts.wishes[row] = first;
        facts.wishes[row + 1] = second;
        facts.wishes[row + 2] = third;
        if (harm < 0) {
            throw new NoSuchElementException("no plan is allowed, or there are more than nine children");
        }
        return facts.bestWish(child, search.groupOf(child));
    }

    public int lonely(int i) {
        int seen = 0;
        for (int child = 0; child < facts.count; child++) {
            if (facts.naming(child) == 0) {
                if (seen == i) {
                    return child;
                }
                seen++;
            }
        }
        return NONE;
    }

    public int ring(int child) {
        if (!facts.has(child)) {
            return NONE;
        }
        int led = facts.reach(child);
        for (int other = 0; other < child; other++) {
            if ((led >> other & 1) != 0 && (facts.reach(other) >> child & 1) != 0) {
                return other;
            }
        }
        return child;
    }

    public int helper(int hours) {
        return within(hours, 1, 60) ? helpers.add(hours) : NONE;
    }

    public int help(int h) {
        if (countListed() == 0 || !within(h, NONE, helpers.count - 1)) {
            return NONE;
        }
        marks.learn(today);
        helpers.clear();
        for (int child = 0; child < facts.count; child++) {
            if (list[child] != NONE) {
                helpers.addNeed(list[child], marks.level(child, 1));
            }
        }
        helpers.divide(facts.classCount);
        return h == NONE ? helpers.least : helpers.best[h];
    }

    public boolean word(int child, int v, int doubt) {
        if (!facts.has(child) || list[child] == NONE || !within(v, 0, 10) || !within(doubt, 0, 5)) {
            return false;
        }
        facts.went[child] = v;
        facts.doubt[child] = doubt;
        return true;
    }

    public int close() {
        if (countListed() == 0) {
            return NONE;
        }
        gatherList();
        partPairs();
        int left = settle();
        Arrays.fill(facts.went, NONE);
        Arrays.fill(facts.doubt, NONE);
        Arrays.fill(list, NONE);
        bestKnown = false;
        years++;
        return left;
    }

    public int regret(int a, int b) {
        return facts.areTwo(a, b) ? facts.regret[a * MOST_CHILDREN + b] : NONE;
    }

    public int scaled(int teacher, int child, int what, int known) {
        if (!within(teacher, NONE, Marks.TEACHERS - 1) || !facts.has(child) || !within(what, 0, 1) || !isDay(known)) {
            return NONE;
        }
        marks.learn(known);
        return teacher == NONE ? marks.overall(child, what) : marks.scale(teacher, child, what);
    }

    public int of(int child, int what) throws NoSuchElementException {
        if (!facts.has(child) || !within(what, 0, 12)) {
            throw new NoSuchElementException("no such child, or nothing such is told of it");
        }
        switch (what) {
            case 0: return facts.sex[child];
            case 1: return facts.month[child];
            case 2: return facts.came[child];
            case 3: return facts.owed[child];
            case 7: return facts.tags[child];
            case 8: return Integer.bitCount(facts.twins[child]);
            case 9: return Integer.bitCount(facts.bars[child]);
            case 10: return facts.naming(child);
            case 11: return facts.went[child];
            case 12: return facts.doubt[child];
            default: return facts.wishes[child * PLACES + what - 4];
        }
    }

    public int count(int what) {
        switch (what) {
            case 0: return facts.count;
            case 1: return facts.classCount;
            case 2: return today;
            case 3: return marks.count;
            case 4: return tape.length;
            case 5: return countListed();
            case 6: return years;
            case 7: return rules.count;
            case 8: return helpers.count;
            case 9: return book.count;
            default: return countClass(what);
        }
    }

    private int countClass(int what) {
        if (within(what, 10, 9 + facts.classCount)) {
            gatherList();
            return Integer.bitCount(groups[what - 10]);
        }
        return within(what, 20, 19 + MOST_CLASSES) ? facts.room[what - 20] : NONE;
    }

    private static boolean within(int v, int low, int high) {
        return v >= low && v <= high;
    }

    private boolean isDay(int known) {
        return within(known, 0, today);
    }

    private static boolean setBit(int[] rows, int row, int bit, boolean is) {
        boolean was = (rows[row] >> bit & 1) != 0;
        if (was == is) {
            return false;
        }
        rows[row] ^= 1 << bit;
        return true;
    }

    private static boolean setPair(int[] rows, int a, int b, boolean is) {
        return setBit(rows, a, b, is) && setBit(rows, b, a, is);
    }

    private int countListed() {
        int listed = 0;
        for (int child = 0; child < facts.count; child++) {
            if (list[child] != NONE) {
                listed++;
            }
        }
        return listed;
    }

    private void gatherList() {
        Arrays.fill(groups, 0);
        for (int child = 0; child < facts.count; child++) {
            int k = list[child];
            if (k >= 0 && k < groups.length) {
                groups[k] |= 1 << child;
            }
        }
    }

    /** The harm of the best plan as known on a day, or why there is none; the plan itself stays in the search. */
    private int bestPlan(int known) {
        if (!bestKnown || bestDay != known) {
            bestAnswer = searchBest(known);
            bestDay = known;
            bestKnown = true;
        }
        return bestAnswer;
    }

    private int searchBest(int known) {
        int size = isDay(known) ? facts.cameBy(known) : 0;
        if (size == 0) {
            return NONE;
        }
        if (size > Search.MOST_MEMBERS) {
            return TOO_MANY;
        }
        judge.prepare(rules, known);
        search.begin();
        for (int child = 0; child < size; child++) {
            search.admit(child, NONE);
        }
        search.run();
        return search.found ? search.bestHarm : NOT_ALLOWED;
    }

    private void takeSearched() {
        for (int child = 0; child < facts.count; child++) {
            list[child] = search.seatOf(child);
        }
    }

    /** The i-th swap that betters both, as lesser * MOST_CHILDREN + other, or NONE; with i below 0 how many there are. */
    private int searchSwaps(int i) {
        judge.prepare(rules, today);
        gatherList();
        int seen = 0;
        for (int a = 0; a < facts.count; a++) {
            for (int b = a + 1; b < facts.count; b++) {
                if (bettersBoth(a, b)) {
                    if (seen == i) {
                        return a * MOST_CHILDREN + b;
                    }
                    seen++;
                }
            }
        }
        return i < 0 ? seen : NONE;
    }

    private boolean bettersBoth(int a, int b) {
        int ka = list[a];
        int kb = list[b];
        if (ka == NONE || kb == NONE || ka == kb) {
            return false;
        }
        int both = 1 << a | 1 << b;
        int placeOfA = facts.bestWish(a, groups[ka]);
        int placeOfB = facts.bestWish(b, groups[kb]);
        groups[ka] ^= both;
        groups[kb] ^= both;
        boolean better = facts.bestWish(a, groups[kb]) < placeOfA
            && facts.bestWish(b, groups[ka]) < placeOfB
            && judge.allows(groups);
        groups[ka] ^= both;
        groups[kb] ^= both;
        return better;
    }

    private void partPairs() {
        for (int a = 0; a < facts.count; a++) {
            for (int b = a + 1; b < facts.count; b++) {
                if (list[a] != NONE && list[a] == list[b] && facts.wentBadly(a) && facts.wentBadly(b)) {
                    facts.addRegret(a, b);
                }
            }
        }
    }

    private int settle() {
        int left = 0;
        for (int child = 0; child < facts.count; child++) {
            int k = list[child];
            if (k == NONE) {
                continue;
            }
            if (facts.bestWish(child, groups[k]) == LEFT) {
                facts.owed[child] = Math.min(facts.owed[child] + 1, MOST_OWED);
                left++;
            } else {
                facts.owed[child] = 0;
            }
        }
        return left;
    }

    /** What was told of the children and the classes, as it is now. */
    private static final class Facts {
        int count;
        final int[] sex = new int[MOST_CHILDREN];
        final int[] month = new int[MOST_CHILDREN];
        final int[] tags = new int[MOST_CHILDREN];
        final int[] came = new int[MOST_CHILDREN];
        final int[] owed = new int[MOST_CHILDREN];
        final int[] wishes = new int[MOST_CHILDREN * PLACES];
        /** Bars and twins: of each child the others, as bits; nots: of each class the children. */
        final int[] bars = new int[MOST_CHILDREN];
        final int[] twins = new int[MOST_CHILDREN];
        final int[] nots = new int[MOST_CLASSES];
        final int[] regret = new int[MOST_CHILDREN * MOST_CHILDREN];
        final int[] went = new int[MOST_CHILDREN];
        final int[] doubt = new int[MOST_CHILDREN];
        int classCount = 2;
        final int[] room = new int[MOST_CLASSES];

        Facts() {
            Arrays.fill(wishes, NONE);
            Arrays.fill(went, NONE);
            Arrays.fill(doubt, NONE);
            Arrays.fill(room, MOST_CHILDREN);
        }

        boolean has(int child) {
            return child >= 0 && child < count;
        }

        boolean areTwo(int a, int b) {
            return has(a) && has(b) && a != b;
        }

        int admit(int itsSex, int itsMonth, int itsTags, int day) {
            if (count >= MOST_CHILDREN) {
                return NONE;
            }
            sex[count] = itsSex;
            month[count] = itsMonth;
            tags[count] = itsTags;
            came[count] = day;
            count++;
            return count - 1;
        }

        /** Children are numbered as they come, so those who came by a day are the first ones. */
        int cameBy(int known) {
            int size = 0;
            for (int child = 0; child < count; child++) {
                if (came[child] <= known) {
                    size++;
                }
            }
            return size;
        }

        int naming(int child) {
            int names = 0;
            for (int at = 0; at < count * PLACES; at++) {
                if (wishes[at] == child) {
                    names++;
                }
            }
            return names;
        }

        int toldWishes(int child) {
            int told = 0;
            for (int p = 0; p < PLACES; p++) {
                if (wishes[child * PLACES + p] != NONE) {
                    told++;
                }
            }
            return told;
        }

        int wishedOnes(int child) {
            int mask = 0;
            for (int p = 0; p < PLACES; p++) {
                int other = wishes[child * PLACES + p];
                if (other != NONE) {
                    mask |= 1 << other;
                }
            }
            return mask;
        }

        int bestWish(int child, int group) {
            for (int p = 0; p < PLACES; p++) {
                int other = wishes[child * PLACES + p];
                if (other != NONE && (group >> other & 1) != 0) {
                    return p;
                }
            }
            return LEFT;
        }

        /** Those to whom wishes lead from a child, one behind the other, and the child itself. */
        int reach(int child) {
            int led = 1 << child;
            for (int round = 1; round < count; round++) {
                int before = led;
                for (int c = 0; c < count; c++) {
                    if ((led >> c & 1) != 0) {
                        led |= wishedOnes(c);
                    }
                }
                if (led == before) {
                    return led;
                }
            }
            return led;
        }

        boolean wentBadly(int child) {
            return went[child] != NONE && went[child] + doubt[child] < 5;
        }

        void addRegret(int a, int b) {
            int more = Math.min(regret[a * MOST_CHILDREN + b] + 1, MOST_OWED);
            regret[a * MOST_CHILDREN + b] = more;
            regret[b * MOST_CHILDREN + a] = more;
        }
    }

    /** The raw marks, in the order in which they were told, and those that count as known on one day. */
    private static final class Marks {
        static final int TEACHERS = 4;
        private static final int MOST_MARKS = 300;
        private static final int SORTS = 2;
        private static final int MIDDLE = 5;
        int count;
        private final int[] teachers = new int[MOST_MARKS];
        private final int[] children = new int[MOST_MARKS];
        private final int[] sorts = new int[MOST_MARKS];
        private final int[] values = new int[MOST_MARKS];
        private final int[] days = new int[MOST_MARKS];
        private final int[] latest = new int[SORTS * TEACHERS * MOST_CHILDREN];

        boolean add(int teacher, int child, int sort, int value, int day) {
            if (count >= MOST_MARKS) {
                return false;
            }
            teachers[count] = teacher;
            children[count] = child;
            sorts[count] = sort;
            values[count] = value;
            days[count] = day;
            count++;
            return true;
        }

        void learn(int known) {
            Arrays.fill(latest, NONE);
            for (int i = 0; i < count; i++) {
                if (days[i] <= known) {
                    latest[(sorts[i] * TEACHERS + teachers[i]) * MOST_CHILDREN + children[i]] = values[i];
                }
            }
        }

        int scale(int teacher, int child, int sort) {
            int row = (sort * TEACHERS + teacher) * MOST_CHILDREN;
            int mine = latest[row + child];
            if (mine == NONE) {
                return NONE;
            }
            int lower = 0;
            int others = 0;
            for (int c = 0; c < MOST_CHILDREN; c++) {
                if (c != child && latest[row + c] != NONE) {
                    others++;
                    if (latest[row + c] < mine) {
                        lower++;
                    }
                }
            }
            return others == 0 ? MIDDLE : 10 * lower / others;
        }

        int overall(int child, int sort) {
            int sum = 0;
            int told = 0;
            for (int teacher = 0; teacher < TEACHERS; teacher++) {
                int scale = scale(teacher, child, sort);
                if (scale != NONE) {
                    sum += scale;
                    told++;
                }
            }
            return told == 0 ? NONE : sum / told;
        }

        int level(int child, int sort) {
            int all = overall(child, sort);
            return all == NONE ? MIDDLE : all;
        }
    }

    /** The statements of a rule, each in a row; the terms of statement s stand in rows 2 * s (first) and 2 * s + 1 (behind from). */
    private static final class Rules {
        static final int MOST_STATEMENTS = 16;
        static final int MOST_TERMS = 4;
        int count;
        final int[] kinds = new int[MOST_STATEMENTS];
        final int[] numbers = new int[MOST_STATEMENTS];
        /** The word of a sum, the how of twins. */
        final int[] words = new int[MOST_STATEMENTS];
        final int[] terms = new int[2 * MOST_STATEMENTS];
        final boolean[] termNots = new boolean[2 * MOST_STATEMENTS * MOST_TERMS];
        final int[] termWords = new int[2 * MOST_STATEMENTS * MOST_TERMS];
        final int[] termSigns = new int[2 * MOST_STATEMENTS * MOST_TERMS];
        final int[] termNumbers = new int[2 * MOST_STATEMENTS * MOST_TERMS];

        void clear() {
            count = 0;
            Arrays.fill(terms, 0);
        }

        /** Whether there is a place for terms there; an even has one for its first terms, told or not. */
        boolean takesTerms(int s, int which) {
            switch (kinds[s]) {
                case APART: return true;
                case EVEN:
                case ALONE:
                case MOST:
                case LEAST: return which == 0;
                default: return false;
            }
        }

        int twinsHow() {
            int how = FREE;
            for (int s = 0; s < count; s++) {
                if (kinds[s] == TWINS) {
                    how = words[s];
                }
            }
            return how;
        }

        boolean uses(int word) {
            for (int s = 0; s < count; s++) {
                if (kinds[s] == SUM && words[s] == word || termsUse(2 * s, word) || termsUse(2 * s + 1, word)) {
                    return true;
                }
            }
            return false;
        }

        private boolean termsUse(int row, int word) {
            for (int t = 0; t < terms[row]; t++) {
                if (termWords[row * MOST_TERMS + t] == word) {
                    return true;
                }
            }
            return false;
        }
    }

    /** The tape and its tokens. */
    private static final class Tape {
        static final int MOST_BYTES = 400;
        // Codes of tokens: words have their places in WORDS, signs their characters.
        static final int THE_END = -1;
        static final int UNKNOWN = -2;
        static final int A_NUMBER = -3;

        int length;
        private final char[] bytes = new char[MOST_BYTES];
        /** How many tokens there are, the end of the tape the last of them. */
        int tokens;
        final int[] codes = new int[MOST_BYTES + 1];
        final int[] starts = new int[MOST_BYTES + 1];
        final int[] numbers = new int[MOST_BYTES + 1];

        boolean hasSpace(int size) {
            return length + size <= MOST_BYTES;
        }

        void append(int four) {
            for (int shift = 24; shift >= 0 && length < MOST_BYTES; shift -= 8) {
                bytes[length] = (char) (four >> shift & 255);
                length++;
            }
        }

        void scan() {
            tokens = 0;
            int step = 1;
            for (int at = 0; at < length; at += Math.max(1, step)) {
                boolean blank = bytes[at] == ' ' || bytes[at] == '\n';
                step = blank ? 1 : scanToken(at);
            }
            add(THE_END, length, 0);
        }

        private void add(int code, int start, int number) {
            if (tokens < codes.length) {
                codes[tokens] = code;
                starts[tokens] = start;
                numbers[tokens] = number;
                tokens++;
            }
        }

        /** Adds the token that begins at a byte that isn't blank: how long it is. */
        private int scanToken(int start) {
            char c = bytes[start];
            if (isLetter(c)) {
                int end = start;
                while (end < length && isLetter(bytes[end])) {
                    end++;
                }
                add(wordCode(start, end - start), start, 0);
                return end - start;
            }
            if (isDigit(c)) {
                return scanNumber(start);
            }
            boolean isSign = c == ';' || c == ':' || c == '<' || c == '=' || c == '>';
            add(isSign ? c : UNKNOWN, start, 0);
            return 1;
        }

        private int scanNumber(int start) {
            int number = 0;
            int end = start;
            while (end < length && isDigit(bytes[end])) {
                // A number too long for the language is no token, so its further digits don't matter.
                if (end < start + 2) {
                    number = 10 * number + bytes[end] - '0';
                }
                end++;
            }
            add(end > start + 2 ? UNKNOWN : A_NUMBER, start, number);
            return end - start;
        }

        private int wordCode(int start, int size) {
            int word = 0;
            int fitting = 0;
            for (int i = 0; i < WORDS.length(); i++) {
                char c = WORDS.charAt(i);
                if (c == ' ') {
                    if (fitting == size) {
                        return word;
                    }
                    word++;
                    fitting = 0;
                } else if (fitting >= 0 && fitting < size && bytes[start + fitting] == c) {
                    fitting++;
                } else {
                    fitting = -1;
                }
            }
            return UNKNOWN;
        }

        private static boolean isLetter(char c) {
            return c >= 'a' && c <= 'z';
        }

        private static boolean isDigit(char c) {
            return c >= '0' && c <= '9';
        }
    }

    /** Reads the tape as a rule. */
    private static final class Parser {
        private static final int UNFIT = 1;
        private static final int NO_TAG = 2;
        private static final int ONE_TOO_MANY = 3;
        private static final int HIGHEST_TAG = 7;

        int fault;
        int faultPlace = NONE;
        private final Tape tape;
        private Rules rules;
        /** The token at hand: its code, its place on the tape and its number. */
        private int token;
        private int code;
        private int start;
        private int number;

        Parser(Tape tape) {
            this.tape = tape;
        }

        boolean reads(Rules into) {
            rules = into;
            rules.clear();
            fault = 0;
            faultPlace = NONE;
            tape.scan();
            token = -1;
            next();
            for (int s = 0; s <= Rules.MOST_STATEMENTS && code != Tape.THE_END; s++) {
                if (!readStatement(s)) {
                    return false;
                }
            }
            return true;
        }

        private void next() {
            // The end is never gone beyond, as no statement goes on with it.
            if (token + 1 < tape.tokens) {
                token++;
                code = tape.codes[token];
                start = tape.starts[token];
                number = tape.numbers[token];
            }
        }

        private boolean refuse(int kind) {
            fault = kind;
            faultPlace = start;
            return false;
        }

        private boolean readStatement(int s) {
            int kind = code;
            if (!within(kind, EVEN, TWINS)) {
                return refuse(UNFIT);
            }
            if (s >= Rules.MOST_STATEMENTS) {
                return refuse(ONE_TOO_MANY);
            }
            rules.kinds[s] = kind;
            rules.count = s + 1;
            next();
            return readBody(s, kind) && readCode(';');
        }

        private boolean readBody(int s, int kind) {
            switch (kind) {
                case EVEN: return (code == ':' || readTerms(2 * s)) && readWeight(s);
                case SUM: return readTrait(s) && readWeight(s);
                case ALONE: return readTerms(2 * s) && readWeight(s);
                case APART: return readTerms(2 * s) && readCode(FROM) && readTerms(2 * s + 1);
                case MOST:
                case LEAST: return readNumber(s) && readTerms(2 * s);
                case TWINS: return readHow(s);
                default: return readWeight(s);
            }
        }

        private boolean readCode(int due) {
            if (code != due) {
                return refuse(UNFIT);
            }
            next();
            return true;
        }

        private boolean readNumber(int s) {
            rules.numbers[s] = number;
            return readCode(Tape.A_NUMBER);
        }

        private boolean readWeight(int s) {
            return readCode(':') && readNumber(s);
        }

        private boolean readTrait(int s) {
            rules.words[s] = code;
            return readCode(within(code, SEX, NAMED) ? code : SEX);
        }

        private boolean readHow(int s) {
            rules.words[s] = code;
            return readCode(code == APART || code == JOINED ? code : FREE);
        }

        private boolean readTerms(int row) {
            for (int t = 0; t <= Rules.MOST_TERMS; t++) {
                if (code != NOT && !within(code, SEX, TAG)) {
                    return refuse(UNFIT);
                }
                if (t >= Rules.MOST_TERMS) {
                    return refuse(ONE_TOO_MANY);
                }
                if (!readTerm(row * Rules.MOST_TERMS + t)) {
                    return false;
                }
                rules.terms[row] = t + 1;
                if (code != AND) {
                    return true;
                }
                next();
            }
            return false;
        }

        private boolean readTerm(int term) {
            rules.termNots[term] = code == NOT;
            if (code == NOT) {
                next();
            }
            int word = code;
            if (!within(word, SEX, TAG)) {
                return refuse(UNFIT);
            }
            rules.termWords[term] = word;
            next();
            if (word != TAG) {
                rules.termSigns[term] = code;
                if (!readCode(code == '<' || code == '>' ? code : '=')) {
                    return false;
                }
            }
            if (word == TAG && code == Tape.A_NUMBER && number > HIGHEST_TAG) {
                return refuse(NO_TAG);
            }
            rules.termNumbers[term] = number;
            return readCode(Tape.A_NUMBER);
        }
    }

    /** Weighs plans, each given as the children of each class as bits, by the rule as known on one day. */
    private static final class Judge {
        private static final int TRAITS = 7;
        private final Facts facts;
        private final Marks marks;
        Rules rules;
        private int how;
        private final int[] traits = new int[TRAITS * MOST_CHILDREN];
        private final int[] wished = new int[MOST_CHILDREN];
        /** For whom the first terms of each statement hold, and those behind from. */
        private final int[] first = new int[Rules.MOST_STATEMENTS];
        private final int[] second = new int[Rules.MOST_STATEMENTS];

        Judge(Facts facts, Marks marks) {
            this.facts = facts;
            this.marks = marks;
        }

        void prepare(Rules now, int known) {
            rules = now;
            how = rules.twinsHow();
            marks.learn(known);
            for (int word = 0; word < TRAITS; word++) {
                if (rules.uses(word)) {
                    for (int child = 0; child < facts.count; child++) {
                        traits[word * MOST_CHILDREN + child] = traitOf(word, child);
                    }
                }
            }
            for (int child = 0; child < facts.count; child++) {
                wished[child] = facts.wishedOnes(child);
            }
            for (int s = 0; s < rules.count; s++) {
                first[s] = holders(2 * s);
                second[s] = holders(2 * s + 1);
            }
        }

        private int traitOf(int word, int child) {
            switch (word) {
                case SEX: return facts.sex[child];
                case MONTH: return facts.month[child];
                case GIFT: return marks.level(child, 0);
                case NEED: return marks.level(child, 1);
                case OWED: return facts.owed[child];
                case WISHES: return facts.toldWishes(child);
                default: return facts.naming(child);
            }
        }

        private int holders(int row) {
            int mask = 0;
            for (int child = 0; child < facts.count; child++) {
                if (meets(row, child)) {
                    mask |= 1 << child;
                }
            }
            return mask;
        }

        /** Whether all terms of a row hold for a child; without terms they do. */
        boolean meets(int row, int child) {
            for (int t = 0; t < rules.terms[row]; t++) {
                int term = row * Rules.MOST_TERMS + t;
                if (meetsTerm(term, child) == rules.termNots[term]) {
                    return false;
                }
            }
            return true;
        }

        private boolean meetsTerm(int term, int child) {
            int word = rules.termWords[term];
            int number = rules.termNumbers[term];
            if (word == TAG) {
                return (facts.tags[child] >> number & 1) != 0;
            }
            int value = traits[word * MOST_CHILDREN + child];
            int sign = rules.termSigns[term];
            return sign == '<' ? value < number : sign == '>' ? value > number : value == number;
        }

        /** What a child adds to its class in an even or a sum. */
        int weightOf(int s, int child) {
            if (rules.kinds[s] == SUM) {
                return traits[rules.words[s] * MOST_CHILDREN + child];
            }
            return first[s] >> child & 1;
        }

        boolean isSpread(int s) {
            return rules.kinds[s] == EVEN || rules.kinds[s] == SUM;
        }

        private int weightIn(int s, int group) {
            if (rules.kinds[s] == EVEN) {
                return Integer.bitCount(first[s] & group);
            }
            int sum = 0;
            for (int child = 0; child < facts.count; child++) {
                if ((group >> child & 1) != 0) {
                    sum += weightOf(s, child);
                }
            }
            return sum;
        }

        /** The harm of one class by a statement in which the harms of the classes are added. */
        int addedHarm(int s, int group) {
            switch (rules.kinds[s]) {
                case FRIEND: return rules.numbers[s] * leftIn(group);
                case ALONE: return Integer.bitCount(first[s] & group) == 1 ? rules.numbers[s] : 0;
                case REGRET: return rules.numbers[s] * regretIn(group);
                default: return 0;
            }
        }

        private int leftIn(int group) {
            int sum = 0;
            for (int child = 0; child < facts.count; child++) {
                if ((group >> child & 1) != 0 && (wished[child] & group) == 0) {
                    sum += 1 + facts.owed[child];
                }
            }
            return sum;
        }

        private int regretIn(int group) {
            int sum = 0;
            for (int a = 0; a < facts.count; a++) {
                if ((group >> a & 1) != 0) {
                    for (int b = 0; b < a; b++) {
                        if ((group >> b & 1) != 0) {
                            sum += facts.regret[a * MOST_CHILDREN + b];
                        }
                    }
                }
            }
            return sum;
        }

        int harmBy(int s, int[] groups) {
            if (isSpread(s)) {
                int least = weightIn(s, groups[0]);
                int greatest = least;
                for (int k = 1; k < facts.classCount; k++) {
                    int weight = weightIn(s, groups[k]);
                    least = Math.min(least, weight);
                    greatest = Math.max(greatest, weight);
                }
                return rules.numbers[s] * (greatest - least);
            }
            int sum = 0;
            for (int k = 0; k < facts.classCount; k++) {
                sum += addedHarm(s, groups[k]);
            }
            return sum;
        }

        int harmOf(int[] groups) {
            int sum = 0;
            for (int s = 0; s < rules.count; s++) {
                sum += harmBy(s, groups);
            }
            return sum;
        }

        int lackIn(int group) {
            int sum = 0;
            for (int s = 0; s < rules.count; s++) {
                if (rules.kinds[s] == LEAST) {
                    sum += Math.max(0, rules.numbers[s] - Integer.bitCount(first[s] & group));
                }
            }
            return sum;
        }

        int lackOf(int[] groups) {
            int sum = 0;
            for (int k = 0; k < facts.classCount; k++) {
                sum += lackIn(groups[k]);
            }
            return sum;
        }

        boolean isSound(int[] groups) {
            int all = 0;
            for (int k = 0; k < facts.classCount; k++) {
                all |= groups[k];
            }
            for (int k = 0; k < facts.classCount; k++) {
                if (!mayStand(k, groups[k]) || !isWhole(groups[k], all)) {
                    return false;
                }
            }
            return true;
        }

        boolean allows(int[] groups) {
            return lackOf(groups) == 0 && isSound(groups);
        }

        /** Whether a class is sound by itself; only joined twins need a look at the others. */
        boolean mayStand(int k, int group) {
            return Integer.bitCount(group) <= facts.room[k] && (facts.nots[k] & group) == 0
                && hasNoPair(group) && fitsStatements(group);
        }

        private boolean hasNoPair(int group) {
            for (int child = 0; child < facts.count; child++) {
                if ((group >> child & 1) != 0) {
                    int others = how == APART ? facts.bars[child] | facts.twins[child] : facts.bars[child];
                    if ((others & group) != 0) {
                        return false;
                    }
                }
            }
            return true;
        }

        private boolean fitsStatements(int group) {
            for (int s = 0; s < rules.count; s++) {
                int firsts = first[s] & group;
                if (rules.kinds[s] == APART && holdsTwo(firsts, second[s] & group)) {
                    return false;
                }
                if (rules.kinds[s] == MOST && Integer.bitCount(firsts) > rules.numbers[s]) {
                    return false;
                }
            }
            return true;
        }

        /** Whether some child of the one set isn't the same as some child of the other. */
        private static boolean holdsTwo(int firsts, int seconds) {
            boolean atMostOne = (firsts & firsts - 1) == 0;
            return firsts != 0 && seconds != 0 && (firsts != seconds || !atMostOne);
        }

        private boolean isWhole(int group, int all) {
            if (how != JOINED) {
                return true;
            }
            for (int child = 0; child < facts.count; child++) {
                if ((group >> child & 1) != 0 && (facts.twins[child] & all & ~group) != 0) {
                    return false;
                }
            }
            return true;
        }

        boolean joins(int a, int b) {
            return how == JOINED && (facts.twins[a] >> b & 1) != 0;
        }
    }

    /** Looks through all plans for some children, the first of them first, for the fewest moves and then the least harm. */
    private static final class Search {
        static final int MOST_MEMBERS = 9;
        private static final int SETS = 1 << MOST_MEMBERS;
        private final Facts facts;
        private final Judge judge;
        private int size;
        /** The children by their numbers; all sets below are of places in this row. */
        private final int[] members = new int[MOST_MEMBERS];
        private final int[] stays = new int[MOST_MEMBERS];
        private final int[] joined = new int[MOST_MEMBERS];
        // What a class comes to by the set of its children: looked up, since each set comes again in very many plans.
        private final int[] standing = new int[SETS];
        private final int[] costs = new int[SETS];
        private final int[] lacks = new int[SETS];
        private int spreads;
        private final int[] spreadNumbers = new int[Rules.MOST_STATEMENTS];
        private final int[] weights = new int[Rules.MOST_STATEMENTS * MOST_MEMBERS];
        private final int[] sums = new int[Rules.MOST_STATEMENTS * MOST_CLASSES];
        private final int[] groups = new int[MOST_CLASSES];
        private final int[] seats = new int[MOST_MEMBERS];
        private final int[] best = new int[MOST_MEMBERS];
        private int moves;
        boolean found;
        int bestMoves;
        int bestHarm;

        Search(Facts facts, Judge judge) {
            this.facts = facts;
            this.judge = judge;
        }

        void begin() {
            size = 0;
            found = false;
        }

        /** One more child; stay is the class from which it would be moved, NONE if no move is counted. */
        void admit(int child, int stay) {
            if (size < MOST_MEMBERS) {
                members[size] = child;
                stays[size] = stay;
                size++;
            }
        }

        void run() {
            readSets();
            readTwins();
            readSpreads();
            Arrays.fill(groups, 0);
            moves = 0;
            bestMoves = 0;
            bestHarm = 0;
            assign(this, 0);
        }

        int seatOf(int child) {
            for (int i = 0; i < size; i++) {
                if (members[i] == child) {
                    return best[i];
                }
            }
            return NONE;
        }

        /** The children, by their numbers, of the class in which a child is by the best plan. */
        int groupOf(int child) {
            int seat = seatOf(child);
            int group = 0;
            for (int i = 0; i < size; i++) {
                if (best[i] == seat) {
                    group |= 1 << members[i];
                }
            }
            return group;
        }

        private void readSets() {
            for (int set = 0; set < 1 << size; set++) {
                int group = 0;
                for (int i = 0; i < size; i++) {
                    if ((set >> i & 1) != 0) {
                        group |= 1 << members[i];
                    }
                }
                standing[set] = 0;
                for (int k = 0; k < facts.classCount; k++) {
                    if (judge.mayStand(k, group)) {
                        standing[set] |= 1 << k;
                    }
                }
                costs[set] = 0;
                lacks[set] = 0;
                if (standing[set] != 0) {
                    lacks[set] = judge.lackIn(group);
                    for (int s = 0; s < judge.rules.count; s++) {
                        costs[set] += judge.addedHarm(s, group);
                    }
                }
            }
        }

        private void readTwins() {
            for (int i = 0; i < size; i++) {
                joined[i] = 0;
                for (int ahead = 0; ahead < i; ahead++) {
                    if (judge.joins(members[i], members[ahead])) {
                        joined[i] |= 1 << ahead;
                    }
                }
            }
        }

        private void readSpreads() {
            spreads = 0;
            Arrays.fill(sums, 0);
            for (int s = 0; s < judge.rules.count; s++) {
                if (judge.isSpread(s)) {
                    spreadNumbers[spreads] = judge.rules.numbers[s];
                    for (int i = 0; i < size; i++) {
                        weights[spreads * MOST_MEMBERS + i] = judge.weightOf(s, members[i]);
                    }
                    spreads++;
                }
            }
        }

        private static void assign(Search search, int at) {
            if (at >= search.size) {
                search.weigh();
                return;
            }
            for (int k = 0; k < search.facts.classCount && !search.isPerfect(); k++) {
                if (!search.isRepeat(k) && search.mayJoin(at, k)) {
                    search.put(at, k, 1);
                    assign(search, at + 1);
                    search.put(at, k, -1);
                }
            }
        }

        /** No later plan can be better than one without moves and harm. */
        private boolean isPerfect() {
            return found && bestMoves == 0 && bestHarm == 0;
        }

        /** With an empty class like an empty one before it all plans are as good as ones that came before. */
        private boolean isRepeat(int k) {
            if (groups[k] != 0 || stays[0] != NONE) {
                return false;
            }
            for (int before = 0; before < k; before++) {
                if (groups[before] == 0 && facts.room[before] == facts.room[k] && facts.nots[before] == facts.nots[k]) {
                    return true;
                }
            }
            return false;
        }

        private int movesOf(int at, int k) {
            return stays[at] == NONE || stays[at] == k ? 0 : 1;
        }

        private boolean mayJoin(int at, int k) {
            int set = groups[k] | 1 << at;
            return (standing[set] >> k & 1) != 0
                && (joined[at] & ~set) == 0
                && (!found || moves + movesOf(at, k) <= bestMoves);
        }

        /** Puts a child into a class, or takes it out with sign -1. */
        private void put(int at, int k, int sign) {
            seats[at] = k;
            groups[k] ^= 1 << at;
            moves += sign * movesOf(at, k);
            for (int j = 0; j < spreads; j++) {
                sums[j * MOST_CLASSES + k] += sign * weights[j * MOST_MEMBERS + at];
            }
        }

        private void weigh() {
            int harm = 0;
            int lack = 0;
            for (int k = 0; k < facts.classCount; k++) {
                harm += costs[groups[k]];
                lack += lacks[groups[k]];
            }
            boolean fewer = !found || moves < bestMoves;
            for (int j = 0; j < spreads && lack == 0 && (fewer || harm < bestHarm); j++) {
                harm += spreadNumbers[j] * spreadOf(j * MOST_CLASSES);
            }
            if (lack == 0 && (fewer || harm < bestHarm)) {
                found = true;
                bestMoves = moves;
                bestHarm = harm;
                System.arraycopy(seats, 0, best, 0, size);
            }
        }

        private int spreadOf(int row) {
            int least = sums[row];
            int greatest = least;
            for (int k = 1; k < facts.classCount; k++) {
                least = Math.min(least, sums[row + k]);
                greatest = Math.max(greatest, sums[row + k]);
            }
            return greatest - least;
        }
    }

    /** A plan by hand of all children. */
    private static final class Hand {
        private static final int MOST_STEPS = 1000000;
        private final Facts facts;
        private final Judge judge;
        private final int[] groups = new int[MOST_CLASSES];
        final int[] seats = new int[MOST_CHILDREN];
        int taken;
        int lack;
        int harm;

        Hand(Facts facts, Judge judge) {
            this.facts = facts;
            this.judge = judge;
        }

        /** The first plan, child by child; false if there is no class for one. */
        boolean starts() {
            Arrays.fill(groups, 0);
            for (int child = 0; child < facts.count; child++) {
                int k = firstClass(child);
                if (k == NONE) {
                    return false;
                }
                seats[child] = k;
                groups[k] |= 1 << child;
            }
            lack = judge.lackOf(groups);
            harm = judge.harmOf(groups);
            taken = 0;
            return true;
        }

        private int firstClass(int child) {
            int best = NONE;
            int least = 0;
            for (int k = 0; k < facts.classCount; k++) {
                groups[k] |= 1 << child;
                if (judge.isSound(groups)) {
                    int now = judge.harmOf(groups);
                    if (best == NONE || now < least) {
                        best = k;
                        least = now;
                    }
                }
                groups[k] &= ~(1 << child);
            }
            return best;
        }

        void improve() {
            while (taken < MOST_STEPS && (stepsByMove() || stepsBySwap())) {
                taken++;
            }
        }

        private boolean stepsByMove() {
            for (int child = 0; child < facts.count; child++) {
                int from = seats[child];
                for (int k = 0; k < facts.classCount; k++) {
                    if (k != from && moveBetters(1 << child, from, k)) {
                        seats[child] = k;
                        return true;
                    }
                }
            }
            return false;
        }

        private boolean stepsBySwap() {
            for (int a = 0; a < facts.count; a++) {
                for (int b = a + 1; b < facts.count; b++) {
                    int ofA = seats[a];
                    int ofB = seats[b];
                    if (ofA != ofB && moveBetters(1 << a | 1 << b, ofA, ofB)) {
                        seats[a] = ofB;
                        seats[b] = ofA;
                        return true;
                    }
                }
            }
            return false;
        }

        /** Changes over the children from each of two classes to the other one, if that makes a better plan. */
        private boolean moveBetters(int movers, int k, int other) {
            groups[k] ^= movers;
            groups[other] ^= movers;
            int lackNow = judge.lackOf(groups);
            if (lackNow <= lack && judge.isSound(groups)) {
                int harmNow = judge.harmOf(groups);
                if (lackNow < lack || harmNow < harm) {
                    lack = lackNow;
                    harm = harmNow;
                    return true;
                }
            }
            groups[k] ^= movers;
            groups[other] ^= movers;
            return false;
        }
    }

    /** The helpers, and the way in which they leave the least need without hours. */
    private static final class Helpers {
        private static final int MOST_HELPERS = 6;
        int count;
        private final int[] hours = new int[MOST_HELPERS];
        private final int[] needs = new int[MOST_CLASSES];
        private final int[] rest = new int[MOST_CLASSES];
        private final int[] seats = new int[MOST_HELPERS];
        final int[] best = new int[MOST_HELPERS];
        int least;

        int add(int itsHours) {
            if (count >= MOST_HELPERS) {
                return NONE;
            }
            hours[count] = itsHours;
            count++;
            return count - 1;
        }

        void clear() {
            Arrays.fill(needs, 0);
        }

        void addNeed(int k, int need) {
            if (k >= 0 && k < MOST_CLASSES) {
                needs[k] += need;
            }
        }

        void divide(int classCount) {
            int ways = 1;
            for (int h = 0; h < count; h++) {
                ways *= classCount;
            }
            for (int way = 0; way < ways; way++) {
                int lack = lackOfWay(way, classCount);
                if (way == 0 || lack < least) {
                    least = lack;
                    System.arraycopy(seats, 0, best, 0, count);
                }
            }
        }

        /** The ways are numbers whose digits are the helpers' classes, the first helper's the highest. */
        private int lackOfWay(int way, int classCount) {
            System.arraycopy(needs, 0, rest, 0, MOST_CLASSES);
            int digits = way;
            for (int h = count - 1; h >= 0 && classCount > 0; h--) {
                int k = digits % classCount;
                digits /= classCount;
                seats[h] = k;
                rest[k] -= hours[h];
            }
            int lack = 0;
            for (int k = 0; k < MOST_CLASSES; k++) {
                lack += Math.max(0, rest[k]);
            }
            return lack;
        }
    }

    /** THE BOOK: the class of a child, each time that a day ended with another one than before. */
    private static final class Book {
        private static final int MOST_LINES = 400;
        int count;
        private final int[] children = new int[MOST_LINES];
        private final int[] seats = new int[MOST_LINES];
        private final int[] days = new int[MOST_LINES];
        private final int[] last = new int[MOST_CHILDREN];

        Book() {
            Arrays.fill(last, NONE);
        }

        void write(int[] list, int size, int day) {
            for (int child = 0; child < size && count < MOST_LINES; child++) {
                if (list[child] != last[child]) {
                    children[count] = child;
                    seats[count] = list[child];
                    days[count] = day;
                    last[child] = list[child];
                    count++;
                }
            }
        }

        int seatAt(int child, int day) {
            int seat = NONE;
            for (int i = 0; i < count; i++) {
                if (children[i] == child && days[i] <= day) {
                    seat = seats[i];
                }
            }
            return seat;
        }
    }
}
