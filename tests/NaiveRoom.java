import java.util.ArrayList;
import java.util.Arrays;
import java.util.HashMap;
import java.util.List;
import java.util.Map;
import java.util.NoSuchElementException;
import java.util.TreeMap;
import java.util.TreeSet;
import java.util.function.Function;
import java.util.regex.Matcher;
import java.util.regex.Pattern;

/** The document once more, as plainly and as slowly as it can be written down, to compare ClassMaker with. */
public final class NaiveRoom {
    static final int NONE = -1;

    static final class Kid {
        int sex, month, tags, came, owed, went = NONE, doubt = NONE;
        int[] wishes = {NONE, NONE, NONE};
    }

    static final class Mark {
        int teacher, child, what, v, day;
    }

    static final class Term {
        boolean not;
        String word;
        char rel;
        int number;
    }

    static final class Statement {
        String kind, word;
        int number;
        List<Term> first, second;
    }

    final List<Kid> kids = new ArrayList<>();
    final List<Mark> marks = new ArrayList<>();
    final TreeSet<String> bars = new TreeSet<>();
    final TreeSet<String> twinPairs = new TreeSet<>();
    final TreeSet<String> nots = new TreeSet<>();
    final Map<String, Integer> regrets = new HashMap<>();
    /** GIFT and NEED as worked out since the last mark, since that takes long. */
    final Map<String, Integer> levels = new HashMap<>();
    final int[] rooms = {14, 14, 14};
    int classCount = 2;
    List<Integer> tape = new ArrayList<>();
    List<Statement> statements = new ArrayList<>();
    int faultPlace = NONE;
    int today;
    int years;
    int stepsTaken = NONE;
    TreeMap<Integer, Integer> list = new TreeMap<>();
    final List<Integer> hours = new ArrayList<>();
    final List<int[]> book = new ArrayList<>();

    static String two(int a, int b) {
        return Math.min(a, b) + "," + Math.max(a, b);
    }

    boolean kid(int c) {
        return c >= 0 && c < kids.size();
    }

    boolean in(int v, int low, int high) {
        return low <= v && v <= high;
    }

    public int child(int sex, int month, int tags) {
        if (!in(sex, 0, 1) || !in(month, 1, 12) || !in(tags, 0, 255) || kids.size() == 14) return NONE;
        Kid k = new Kid();
        k.sex = sex;
        k.month = month;
        k.tags = tags;
        k.came = today;
        kids.add(k);
        return kids.size() - 1;
    }

    public boolean mark(int teacher, int child, int what, int v) {
        if (!in(teacher, 0, 3) || !kid(child) || !in(what, 0, 1) || !in(v, 0, 100) || marks.size() == 300) return false;
        levels.clear();
        Mark m = new Mark();
        m.teacher = teacher;
        m.child = child;
        m.what = what;
        m.v = v;
        m.day = today;
        marks.add(m);
        return true;
    }

    public boolean wish(int child, int place, int other) {
        if (!kid(child) || !in(place, 0, 2) || other == child || other != NONE && !kid(other)) return false;
        kids.get(child).wishes[place] = other;
        return true;
    }

    boolean told(TreeSet<String> set, String what, boolean is) {
        return is ? set.add(what) : set.remove(what);
    }

    public boolean bar(int a, int b, boolean is) {
        return kid(a) && kid(b) && a != b && told(bars, two(a, b), is);
    }

    public boolean twins(int a, int b, boolean is) {
        return kid(a) && kid(b) && a != b && told(twinPairs, two(a, b), is);
    }

    public boolean not(int child, int c, boolean is) {
        return kid(child) && in(c, 0, 2) && told(nots, child + "," + c, is);
    }

    public boolean classes(int n) {
        if (n != 2 && n != 3 || n == 2 && list.containsValue(2)) return false;
        classCount = n;
        return true;
    }

    public boolean room(int c, int v) {
        if (!in(c, 0, 2) || !in(v, 0, 14)) return false;
        rooms[c] = v;
        return true;
    }

    public int feed(int a, int b, int c, int d, int e) {
        if (tape.size() > 380) return NONE;
        for (int x : new int[] {a, b, c, d, e}) {
            tape.add(x >>> 24);
            tape.add(x >>> 16 & 255);
            tape.add(x >>> 8 & 255);
            tape.add(x & 255);
        }
        return tape.size();
    }

    public int end(int n) {
        if (n < 0 || n > tape.size()) return NONE;
        tape = new ArrayList<>(tape.subList(0, n));
        return n;
    }

    static final String TERM = "n?(?:w<N|tN)";
    static final String TERMS = TERM + "(?:&" + TERM + ")*";
    static final Pattern RULE = Pattern.compile("(?:(?:E(?:" + TERMS + ")?:N|Sw:N|F:N|A" + TERMS + ":N|R:N|P" + TERMS
        + "r" + TERMS + "|MN" + TERMS + "|LN" + TERMS + "|T[PJf]);)*");
    static final List<String> TRAITS = List.of("sex", "month", "gift", "need", "owed", "wishes", "named");

    static char shape(String token) {
        if (TRAITS.contains(token)) return 'w';
        if (token.matches("[0-9]{1,2}")) return 'N';
        if (token.matches("[<=>]")) return '<';
        if (token.matches("[;:]")) return token.charAt(0);
        int i = List.of("even", "sum", "friend", "alone", "regret", "apart", "most", "least", "twins", "joined", "free", "not",
            "and", "from", "tag").indexOf(token);
        return i < 0 ? '?' : "ESFARPMLTJfn&rt".charAt(i);
    }

    public int rule() {
        StringBuilder text = new StringBuilder();
        for (int b : tape) text.append((char) b);
        tape = new ArrayList<>();
        List<String> tokens = new ArrayList<>();
        List<Integer> places = new ArrayList<>();
        Matcher m = Pattern.compile("[a-z]+|[0-9]+|[^ \\n]", Pattern.DOTALL).matcher(text);
        while (m.find()) {
            tokens.add(m.group());
            places.add(m.start());
        }
        int[] fault = fault(tokens, places, text.length());
        faultPlace = fault == null ? NONE : fault[0];
        if (fault != null) return -1 - fault[1];
        statements = parse(tokens);
        return statements.size();
    }

    /** Place and kind of the fault; null without one. */
    int[] fault(List<String> tokens, List<Integer> places, int length) {
        StringBuilder shapes = new StringBuilder();
        for (String t : tokens) shapes.append(shape(t));
        int unfit = tokens.size();
        for (int i = tokens.size(); i >= 1; i--) {
            Matcher m = RULE.matcher(shapes.substring(0, i));
            if (!m.matches() && !m.hitEnd()) unfit = i - 1;
        }
        int place = unfit < tokens.size() ? places.get(unfit) : length;
        boolean whole = unfit == tokens.size() && RULE.matcher(shapes).matches();
        int statement = 0;
        int terms = 0;
        for (int i = 0; i < unfit; i++) {
            char c = shapes.charAt(i);
            boolean starts = i == 0 || shapes.charAt(i - 1) == ';';
            if (starts) {
                statement++;
                if (statement == 17) return new int[] {places.get(i), 3};
            }
            if (c == 'r' || starts) terms = 0;
            if (c == '&') terms++;
            if (i > 0 && shapes.charAt(i - 1) == '&' && terms == 4) return new int[] {places.get(i), 3};
            if (c == 'N' && shapes.charAt(i - 1) == 't' && Integer.parseInt(tokens.get(i)) > 7) return new int[] {places.get(i), 2};
        }
        return whole ? null : new int[] {place, 1};
    }

    List<Statement> parse(List<String> tokens) {
        List<Statement> all = new ArrayList<>();
        List<String> part = new ArrayList<>();
        for (String t : tokens) {
            if (!t.equals(";")) {
                part.add(t);
                continue;
            }
            Statement s = new Statement();
            s.kind = part.get(0);
            String last = part.get(part.size() - 1);
            int from = part.indexOf("from");
            int colon = part.indexOf(":");
            if (colon >= 0) s.number = Integer.parseInt(last);
            switch (s.kind) {
                case "even": s.first = terms(part.subList(1, colon)); break;
                case "alone": s.first = terms(part.subList(1, colon)); break;
                case "sum": s.word = part.get(1); break;
                case "twins": s.word = last; break;
                case "most": case "least":
                    s.number = Integer.parseInt(part.get(1));
                    s.first = terms(part.subList(2, part.size()));
                    break;
                case "apart":
                    s.first = terms(part.subList(1, from));
                    s.second = terms(part.subList(from + 1, part.size()));
                    break;
                default:
            }
            all.add(s);
            part = new ArrayList<>();
        }
        return all;
    }

    List<Term> terms(List<String> part) {
        List<Term> terms = new ArrayList<>();
        int i = 0;
        while (i < part.size()) {
            Term t = new Term();
            if (part.get(i).equals("not")) {
                t.not = true;
                i++;
            }
            t.word = part.get(i);
            i++;
            if (!t.word.equals("tag")) {
                t.rel = part.get(i).charAt(0);
                i++;
            }
            t.number = Integer.parseInt(part.get(i));
            i += 2;
            terms.add(t);
        }
        return terms;
    }

    public int place() {
        return faultPlace;
    }

    public int holds(int s, int which, int child, int known) {
        if (!in(s, 0, statements.size() - 1) || !in(which, 0, 1) || !kid(child) || !in(known, 0, today)) return NONE;
        List<Term> terms = which == 0 ? statements.get(s).first : statements.get(s).second;
        if (terms == null) return NONE;
        return hold(terms, child, known) ? 1 : 0;
    }

    boolean hold(List<Term> terms, int child, int known) {
        for (Term t : terms) {
            boolean met;
            if (t.word.equals("tag")) {
                met = (kids.get(child).tags & 1 << t.number) != 0;
            } else {
                int v = trait(t.word, child, known);
                met = t.rel == '<' && v < t.number || t.rel == '=' && v == t.number || t.rel == '>' && v > t.number;
            }
            if (met == t.not) return false;
        }
        return true;
    }

    int trait(String word, int child, int known) {
        Kid k = kids.get(child);
        switch (word) {
            case "sex": return k.sex;
            case "month": return k.month;
            case "owed": return k.owed;
            case "wishes": return (int) Arrays.stream(k.wishes).filter(w -> w != NONE).count();
            case "named": return named(child);
            default:
                return levels.computeIfAbsent(word + child + "," + known, key -> {
                    int v = scaled(NONE, child, word.equals("gift") ? 0 : 1, known);
                    return v == NONE ? 5 : v;
                });
        }
    }

    int named(int child) {
        int n = 0;
        for (Kid k : kids) for (int w : k.wishes) if (w == child) n++;
        return n;
    }

    Integer raw(int teacher, int child, int what, int known) {
        Integer v = null;
        for (Mark m : marks) {
            if (m.teacher == teacher && m.child == child && m.what == what && m.day <= known) v = m.v;
        }
        return v;
    }

    public int scaled(int teacher, int child, int what, int known) {
        if (!in(teacher, NONE, 3) || !kid(child) || !in(what, 0, 1) || !in(known, 0, today)) return NONE;
        if (teacher == NONE) {
            int sum = 0;
            int n = 0;
            for (int t = 0; t < 4; t++) {
                int v = scaled(t, child, what, known);
                if (v != NONE) {
                    sum += v;
                    n++;
                }
            }
            return n == 0 ? NONE : sum / n;
        }
        Integer mine = raw(teacher, child, what, known);
        if (mine == null) return NONE;
        int lower = 0;
        int others = 0;
        for (int c = 0; c < kids.size(); c++) {
            Integer v = raw(teacher, c, what, known);
            if (c != child && v != null) {
                others++;
                if (v < mine) lower++;
            }
        }
        return others == 0 ? 5 : 10 * lower / others;
    }

    public int day(int n) {
        if (!in(n, 0, 1000) || today + n > 100000) return NONE;
        for (int d = 0; d < n; d++) {
            for (int c = 0; c < kids.size(); c++) {
                int last = NONE;
                for (int[] line : book) if (line[1] == c) last = line[2];
                int now = list.getOrDefault(c, NONE);
                if (now != last && book.size() < 400) book.add(new int[] {today, c, now});
            }
            today++;
        }
        return today;
    }

    // A plan: of each child in it the class.

    boolean sound(TreeMap<Integer, Integer> plan, int known) {
        for (int k = 0; k < classCount; k++) {
            int size = 0;
            for (int v : plan.values()) if (v == k) size++;
            if (size > rooms[k]) return false;
        }
        String how = "free";
        for (Statement s : statements) if (s.kind.equals("twins")) how = s.word;
        for (int a : plan.keySet()) {
            if (nots.contains(a + "," + plan.get(a))) return false;
            for (int b : plan.keySet()) {
                if (a >= b) continue;
                boolean same = plan.get(a).equals(plan.get(b));
                if (same && bars.contains(two(a, b))) return false;
                if (twinPairs.contains(two(a, b)) && (how.equals("joined") && !same || how.equals("apart") && same)) return false;
            }
        }
        for (Statement s : statements) {
            if (s.kind.equals("apart")) {
                for (int a : plan.keySet()) {
                    for (int b : plan.keySet()) {
                        if (a != b && plan.get(a).equals(plan.get(b)) && hold(s.first, a, known) && hold(s.second, b, known)) return false;
                    }
                }
            }
            if (s.kind.equals("most")) {
                for (int k = 0; k < classCount; k++) if (holding(s, plan, k, known) > s.number) return false;
            }
        }
        return true;
    }

    int holding(Statement s, TreeMap<Integer, Integer> plan, int k, int known) {
        int n = 0;
        for (int c : plan.keySet()) if (plan.get(c) == k && hold(s.first, c, known)) n++;
        return n;
    }

    int lack(TreeMap<Integer, Integer> plan, int known) {
        int sum = 0;
        for (Statement s : statements) {
            if (!s.kind.equals("least")) continue;
            for (int k = 0; k < classCount; k++) sum += Math.max(0, s.number - holding(s, plan, k, known));
        }
        return sum;
    }

    int servedIn(TreeMap<Integer, Integer> plan, int child) {
        for (int p = 0; p < 3; p++) {
            int w = kids.get(child).wishes[p];
            if (w != NONE && plan.containsKey(w) && plan.get(w).equals(plan.get(child))) return p;
        }
        return 3;
    }

    int apart(int[] of) {
        int low = of[0];
        int high = of[0];
        for (int k = 0; k < classCount; k++) {
            low = Math.min(low, of[k]);
            high = Math.max(high, of[k]);
        }
        return high - low;
    }

    int harmBy(Statement s, TreeMap<Integer, Integer> plan, int known) {
        int[] of = new int[3];
        int sum = 0;
        switch (s.kind) {
            case "even":
                for (int k = 0; k < 3; k++) of[k] = holding(s, plan, k, known);
                return s.number * apart(of);
            case "sum":
                for (int c : plan.keySet()) of[plan.get(c)] += trait(s.word, c, known);
                return s.number * apart(of);
            case "friend":
                for (int c : plan.keySet()) if (servedIn(plan, c) == 3) sum += 1 + kids.get(c).owed;
                return s.number * sum;
            case "alone":
                for (int k = 0; k < 3; k++) if (holding(s, plan, k, known) == 1) sum++;
                return s.number * sum;
            case "regret":
                for (int a : plan.keySet()) {
                    for (int b : plan.keySet()) {
                        if (a < b && plan.get(a).equals(plan.get(b))) sum += regret(a, b);
                    }
                }
                return s.number * sum;
            default: return 0;
        }
    }

    int harmIn(TreeMap<Integer, Integer> plan, int known) {
        int sum = 0;
        for (Statement s : statements) sum += harmBy(s, plan, known);
        return sum;
    }

    boolean allowedPlan(TreeMap<Integer, Integer> plan, int known) {
        return sound(plan, known) && lack(plan, known) == 0;
    }

    /** The first of the allowed plans for some children by which what is asked for is least; null if there is none. */
    TreeMap<Integer, Integer> leastPlan(List<Integer> who, int known, Function<TreeMap<Integer, Integer>, Long> cost) {
        int ways = 1;
        for (int i = 0; i < who.size(); i++) ways *= classCount;
        TreeMap<Integer, Integer> best = null;
        long least = 0;
        for (int way = 0; way < ways; way++) {
            TreeMap<Integer, Integer> plan = new TreeMap<>();
            int rest = way;
            for (int i = who.size() - 1; i >= 0; i--) {
                plan.put(who.get(i), rest % classCount);
                rest /= classCount;
            }
            if (!allowedPlan(plan, known)) continue;
            long v = cost.apply(plan);
            if (best == null || v < least) {
                best = plan;
                least = v;
            }
        }
        return best;
    }

    List<Integer> came(int known) {
        List<Integer> who = new ArrayList<>();
        for (int c = 0; c < kids.size(); c++) if (kids.get(c).came <= known) who.add(c);
        return who;
    }

    TreeMap<Integer, Integer> best(int known) {
        return leastPlan(came(known), known, p -> (long) harmIn(p, known));
    }

    public int plan(int known) {
        if (!in(known, 0, today) || came(known).isEmpty()) return NONE;
        if (came(known).size() > 9) return -3;
        TreeMap<Integer, Integer> best = best(known);
        return best == null ? -2 : harmIn(best, known);
    }

    public int planned(int known, int child) {
        if (plan(known) < 0 || !kid(child)) return NONE;
        return best(known).getOrDefault(child, NONE);
    }

    public int keep() {
        int harm = plan(today);
        if (harm >= 0) list = best(today);
        return harm;
    }

    public int make() {
        if (kids.isEmpty()) return NONE;
        TreeMap<Integer, Integer> plan = new TreeMap<>();
        for (int c = 0; c < kids.size(); c++) {
            int best = NONE;
            int least = 0;
            for (int k = 0; k < classCount; k++) {
                plan.put(c, k);
                if (sound(plan, today) && (best == NONE || harmIn(plan, today) < least)) {
                    best = k;
                    least = harmIn(plan, today);
                }
            }
            if (best == NONE) return -2;
            plan.put(c, best);
        }
        int taken = 0;
        for (TreeMap<Integer, Integer> better = better(plan); better != null; better = better(plan)) {
            plan = better;
            taken++;
        }
        list = plan;
        stepsTaken = taken;
        return lack(plan, today) != 0 ? -4 : harmIn(plan, today);
    }

    TreeMap<Integer, Integer> better(TreeMap<Integer, Integer> plan) {
        List<TreeMap<Integer, Integer>> nexts = new ArrayList<>();
        for (int c : plan.keySet()) {
            for (int k = 0; k < classCount; k++) {
                TreeMap<Integer, Integer> next = new TreeMap<>(plan);
                next.put(c, k);
                nexts.add(next);
            }
        }
        for (int a : plan.keySet()) {
            for (int b : plan.keySet()) {
                if (a >= b) continue;
                nexts.add(swapped(plan, a, b));
            }
        }
        int lack = lack(plan, today);
        int harm = harmIn(plan, today);
        for (TreeMap<Integer, Integer> next : nexts) {
            int l = lack(next, today);
            if (l > lack || !sound(next, today)) continue;
            if (l < lack || harmIn(next, today) < harm) return next;
        }
        return null;
    }

    static TreeMap<Integer, Integer> swapped(TreeMap<Integer, Integer> plan, int a, int b) {
        TreeMap<Integer, Integer> next = new TreeMap<>(plan);
        next.put(a, plan.get(b));
        next.put(b, plan.get(a));
        return next;
    }

    public int steps() {
        return stepsTaken;
    }

    public int late(int child) {
        if (!kid(child) || list.containsKey(child)) return NONE;
        int best = -2;
        int least = 0;
        for (int k = 0; k < classCount; k++) {
            TreeMap<Integer, Integer> plan = new TreeMap<>(list);
            plan.put(child, k);
            if (allowedPlan(plan, today) && (best == -2 || harmIn(plan, today) < least)) {
                best = k;
                least = harmIn(plan, today);
            }
        }
        if (best >= 0) list.put(child, best);
        return best;
    }

    public int change() {
        if (list.isEmpty()) return NONE;
        if (list.size() > 9) return -3;
        TreeMap<Integer, Integer> best = leastPlan(new ArrayList<>(list.keySet()), today,
            p -> moved(p) * 1000000000L + harmIn(p, today));
        if (best == null) return -2;
        int moved = (int) moved(best);
        list = best;
        return moved;
    }

    long moved(TreeMap<Integer, Integer> plan) {
        return plan.keySet().stream().filter(c -> !plan.get(c).equals(list.get(c))).count();
    }

    public int classOf(int child) {
        return list.getOrDefault(child, NONE);
    }

    public int was(int child, int day) {
        if (!kid(child) || !in(day, 0, today)) return NONE;
        if (day == today) return classOf(child);
        int k = NONE;
        for (int[] line : book) if (line[0] <= day && line[1] == child) k = line[2];
        return k;
    }

    public int served(int child) {
        return list.containsKey(child) ? servedIn(list, child) : NONE;
    }

    public int harm(int s) {
        if (list.isEmpty() || !in(s, NONE, statements.size() - 1)) return NONE;
        return s == NONE ? harmIn(list, today) : harmBy(statements.get(s), list, today);
    }

    public int allowed(int what) {
        if (list.isEmpty() || !in(what, 0, 1)) return NONE;
        if (what == 1) return lack(list, today);
        return allowedPlan(list, today) ? 1 : 0;
    }

    List<int[]> betterSwaps() {
        List<int[]> found = new ArrayList<>();
        for (int a : list.keySet()) {
            for (int b : list.keySet()) {
                if (a >= b || list.get(a).equals(list.get(b))) continue;
                TreeMap<Integer, Integer> next = swapped(list, a, b);
                if (allowedPlan(next, today) && servedIn(next, a) < servedIn(list, a) && servedIn(next, b) < servedIn(list, b)) {
                    found.add(new int[] {a, b});
                }
            }
        }
        return found;
    }

    public int swaps() {
        return betterSwaps().size();
    }

    public int swap(int i, int what) {
        List<int[]> found = betterSwaps();
        return in(i, 0, found.size() - 1) && in(what, 0, 1) ? found.get(i)[what] : NONE;
    }

    public int lie(int child, int place) {
        if (!kid(child) || !in(place, 0, 2) || kids.get(child).wishes[place] == NONE) throw new NoSuchElementException();
        int[] truth = kids.get(child).wishes;
        kids.get(child).wishes = new int[] {truth[place], NONE, NONE};
        TreeMap<Integer, Integer> best = kids.size() > 9 ? null : best(today);
        kids.get(child).wishes = truth;
        if (best == null) throw new NoSuchElementException();
        return servedIn(best, child);
    }

    public int lonely(int i) {
        List<Integer> found = new ArrayList<>();
        for (int c = 0; c < kids.size(); c++) if (named(c) == 0) found.add(c);
        return in(i, 0, found.size() - 1) ? found.get(i) : NONE;
    }

    TreeSet<Integer> led(int child) {
        TreeSet<Integer> seen = new TreeSet<>();
        List<Integer> open = new ArrayList<>(List.of(child));
        while (!open.isEmpty()) {
            int c = open.remove(0);
            if (!seen.add(c)) continue;
            for (int w : kids.get(c).wishes) if (w != NONE) open.add(w);
        }
        return seen;
    }

    public int ring(int child) {
        if (!kid(child)) return NONE;
        for (int c = 0; c < child; c++) if (led(child).contains(c) && led(c).contains(child)) return c;
        return child;
    }

    public int helper(int h) {
        if (!in(h, 1, 60) || hours.size() == 6) return NONE;
        hours.add(h);
        return hours.size() - 1;
    }

    public int help(int h) {
        if (list.isEmpty() || !in(h, NONE, hours.size() - 1)) return NONE;
        int[] best = null;
        int least = 0;
        int[] way = new int[hours.size()];
        while (true) {
            int[] rest = new int[3];
            for (int c : list.keySet()) rest[list.get(c)] += trait("need", c, today);
            for (int i = 0; i < way.length; i++) rest[way[i]] -= hours.get(i);
            int lack = 0;
            for (int r : rest) lack += Math.max(0, r);
            if (best == null || lack < least) {
                best = way.clone();
                least = lack;
            }
            int i = way.length - 1;
            while (i >= 0 && way[i] == classCount - 1) {
                way[i] = 0;
                i--;
            }
            if (i < 0) break;
            way[i]++;
        }
        return h == NONE ? least : best[h];
    }

    public boolean word(int child, int v, int doubt) {
        if (!list.containsKey(child) || !in(v, 0, 10) || !in(doubt, 0, 5)) return false;
        kids.get(child).went = v;
        kids.get(child).doubt = doubt;
        return true;
    }

    public int close() {
        if (list.isEmpty()) return NONE;
        int left = 0;
        for (int a : list.keySet()) {
            for (int b : list.keySet()) {
                Kid x = kids.get(a);
                Kid y = kids.get(b);
                if (a < b && list.get(a).equals(list.get(b)) && x.went != NONE && y.went != NONE && x.went + x.doubt < 5
                        && y.went + y.doubt < 5) {
                    regrets.put(two(a, b), Math.min(99, regret(a, b) + 1));
                }
            }
        }
        for (int c : list.keySet()) {
            Kid k = kids.get(c);
            if (servedIn(list, c) == 3) {
                left++;
                k.owed = Math.min(99, k.owed + 1);
            } else {
                k.owed = 0;
            }
        }
        for (Kid k : kids) {
            k.went = NONE;
            k.doubt = NONE;
        }
        list = new TreeMap<>();
        years++;
        return left;
    }

    public int regret(int a, int b) {
        return kid(a) && kid(b) && a != b ? regrets.getOrDefault(two(a, b), 0) : NONE;
    }

    int pairsOf(TreeSet<String> set, int child) {
        int n = 0;
        for (int c = 0; c < kids.size(); c++) if (c != child && set.contains(two(c, child))) n++;
        return n;
    }

    public int of(int child, int what) {
        if (!kid(child) || !in(what, 0, 12)) throw new NoSuchElementException();
        Kid k = kids.get(child);
        int[] all = {k.sex, k.month, k.came, k.owed, k.wishes[0], k.wishes[1], k.wishes[2], k.tags, pairsOf(twinPairs, child),
            pairsOf(bars, child), named(child), k.went, k.doubt};
        return all[what];
    }

    public int count(int what) {
        int[] all = {kids.size(), classCount, today, marks.size(), tape.size(), list.size(), years, statements.size(), hours.size(),
            book.size()};
        if (in(what, 0, 9)) return all[what];
        if (in(what, 10, 9 + classCount)) return (int) list.values().stream().filter(k -> k == what - 10).count();
        return in(what, 20, 22) ? rooms[what - 20] : NONE;
    }
}
