import java.lang.reflect.InvocationTargetException;
import java.lang.reflect.Method;
import java.lang.reflect.Modifier;
import java.util.ArrayList;
import java.util.Arrays;
import java.util.HashMap;
import java.util.List;
import java.util.Map;
import java.util.regex.Matcher;
import java.util.regex.Pattern;

/**
 * Tests written as lines, one call each, on a new room: "name arguments -> answer"; without an arrow any answer will do.
 *
 * <p>"3 * name arguments" makes a call three times. "rule 'text' -> 2" puts a text on the empty tape and reads it; with
 * "-> -2 at 7" the place of its fault is asked for, too; {16*even:1;} in a text stands for it 16 times.
 *
 * <p>Behind a refused call, that is one that answers NONE, false or an exception, or whose line begins with !, all other calls
 * must answer what they answer in a room in which it wasn't made. No room is used for more calls than the document promises.
 */
final class Script {
    private static final int MOST_CALLS = 512;
    private static final Map<String, Method> FACE = face();
    private static int tests;
    private static int wrong;

    private record Call(Method method, Object[] args) {
        @Override public String toString() {
            return method.getName() + Arrays.toString(args);
        }
    }

    private record Line(String text, List<Call> calls, boolean refused, String due, String place) { }

    private static final class Room {
        private final ClassMaker maker = new ClassMaker();
        private int made;

        Room(List<Call> run) {
            for (Call c : run) make(c);
        }

        int left() {
            return MOST_CALLS - made;
        }

        String make(Call call) {
            if (left() == 0) throw new IllegalStateException("more calls than the document promises");
            made++;
            try {
                return String.valueOf(call.method.invoke(maker, call.args));
            } catch (InvocationTargetException e) {
                return "throws " + e.getTargetException().getClass().getSimpleName();
            } catch (IllegalAccessException e) {
                throw new IllegalStateException(e);
            }
        }

        int count(int what) {
            return Integer.parseInt(make(call("count", what)));
        }
    }

    private final String sentence;
    private final List<Call> run = new ArrayList<>();
    private final Map<Boolean, List<String>> answersAhead = new HashMap<>();

    private Script(String sentence) {
        this.sentence = sentence;
    }

    private static Map<String, Method> face() {
        Map<String, Method> face = new HashMap<>();
        for (Method m : ClassMaker.class.getDeclaredMethods()) {
            if (Modifier.isPublic(m.getModifiers())) face.put(m.getName(), m);
        }
        return face;
    }

    /** The sentence names the promise, or the part of Terms, and what it says there. */
    static void test(String sentence, String... parts) {
        tests++;
        Script script = new Script(sentence);
        Room room = new Room(List.of());
        for (String text : String.join("\n", parts).split("\n")) {
            if (!text.isBlank()) script.check(parse(text.trim()), room);
        }
    }

    static void end(String what) {
        if (wrong > 0) {
            System.out.println(wrong + " answers are not as due");
            System.exit(1);
        }
        System.out.println(what + ": " + tests + " tests, all answers are as due");
    }

    private void say(String text) {
        wrong++;
        System.out.println(sentence + ": " + text);
    }

    private void check(Line line, Room room) {
        String got = null;
        for (Call c : line.calls) got = room.make(c);
        if (line.due != null && !line.due.equals(got)) say(line.text + " answered " + got);
        if (line.place != null) {
            String place = room.make(call("place"));
            if (!line.place.equals(place)) say(line.text + " has its fault at " + place);
        }
        if (line.refused) {
            checkRefused(line);
        } else {
            run.addAll(line.calls);
            answersAhead.clear();
        }
    }

    private void checkRefused(Line line) {
        boolean ofTape = line.calls.size() > 1;
        List<Call> without = new ArrayList<>(run);
        if (ofTape) without.add(call("end", 0));
        List<Call> with = new ArrayList<>(run);
        with.addAll(line.calls);
        List<String> ahead = answersAhead.computeIfAbsent(ofTape, k -> answers(without, !ofTape));
        List<String> behind = answers(with, !ofTape);
        for (int i = 0; i < Math.min(ahead.size(), behind.size()); i++) {
            if (!ahead.get(i).equals(behind.get(i))) {
                say(line.text + " was refused, but behind it " + behind.get(i) + ", ahead of it " + ahead.get(i));
                return;
            }
        }
    }

    // Lines

    static Call call(String name, Object... args) {
        return new Call(FACE.get(name), args);
    }

    private static Line parse(String text) {
        String rest = text;
        boolean refused = rest.startsWith("!");
        if (refused) rest = rest.substring(1).trim();
        int times = 1;
        Matcher often = Pattern.compile("(\\d+) \\* (.*)", Pattern.DOTALL).matcher(rest);
        if (often.matches()) {
            times = Integer.parseInt(often.group(1));
            rest = often.group(2);
        }
        String due = null;
        String place = null;
        int arrow = rest.lastIndexOf(" -> ");
        if (arrow >= 0) {
            String[] answer = rest.substring(arrow + 4).trim().split(" at ");
            due = answer[0].equals("throws") ? "throws NoSuchElementException" : answer[0].replace("NONE", "-1");
            place = answer.length > 1 ? answer[1].replace("NONE", "-1") : null;
            rest = rest.substring(0, arrow);
        }
        List<Call> one = rest.startsWith("rule '") ? ruleOf(rest.substring(6, rest.lastIndexOf('\''))) : List.of(plain(rest.trim()));
        List<Call> calls = new ArrayList<>();
        for (int i = 0; i < times; i++) calls.addAll(one);
        boolean takesNothing = due != null && (due.equals("-1") || due.equals("false") || due.startsWith("throws"));
        return new Line(text, calls, refused || takesNothing, due, place);
    }

    private static Call plain(String text) {
        String[] words = text.split(" +");
        Method m = FACE.get(words[0]);
        Object[] args = new Object[words.length - 1];
        for (int i = 0; i < args.length; i++) args[i] = value(words[i + 1]);
        return new Call(m, args);
    }

    private static Object value(String word) {
        switch (word) {
            case "true": return true;
            case "false": return false;
            case "NONE": return -1;
            case "MIN": return Integer.MIN_VALUE;
            case "MAX": return Integer.MAX_VALUE;
            default: return word.startsWith("0x") ? (int) Long.parseLong(word.substring(2), 16) : Integer.parseInt(word);
        }
    }

    private static List<Call> ruleOf(String written) {
        Matcher m = Pattern.compile("\\{(\\d+)\\*([^}]*)\\}").matcher(written);
        String text = m.replaceAll(r -> Matcher.quoteReplacement(r.group(2).repeat(Integer.parseInt(r.group(1))))).replace("\\n", "\n");
        text = Pattern.compile("\\\\x(..)").matcher(text).replaceAll(
            r -> Matcher.quoteReplacement("" + (char) Integer.parseInt(r.group(1), 16)));
        List<Call> calls = new ArrayList<>();
        calls.add(call("end", 0));
        for (int i = 0; i < text.length(); i += 20) {
            Object[] w = {0, 0, 0, 0, 0};
            // Behind the text stand bytes that no rule goes on with, so that end() must cut them.
            for (int j = 0; j < 20; j++) w[j / 4] = (int) w[j / 4] << 8 | (i + j < text.length() ? text.charAt(i + j) & 255 : '#');
            calls.add(call("feed", w));
        }
        calls.add(call("end", text.length()));
        calls.add(call("rule"));
        return calls;
    }

    // All that can be asked behind a run

    private static List<String> answers(List<Call> run, boolean withPlace) {
        Room counting = new Room(run);
        int kids = counting.count(0);
        int today = counting.count(2);
        int statements = counting.count(7);
        List<String> answers = new ArrayList<>();
        if (withPlace) answers.add("place() answers " + counting.make(call("place")));
        Room room = new Room(run);
        for (Call c : asks(kids, today, statements)) {
            if (room.left() == 0) room = new Room(run);
            answers.add(c + " answers " + room.make(c));
        }
        for (List<Call> probe : probes(kids, today, statements)) {
            room = new Room(run);
            for (Call c : probe) {
                if (room.left() > 0) answers.add(c + " in a run that goes on answers " + room.make(c));
            }
        }
        return answers;
    }

    /** Calls that change nothing. */
    private static List<Call> asks(int kids, int today, int statements) {
        List<Call> all = new ArrayList<>();
        for (int what = 0; what < 23; what++) all.add(call("count", what));
        all.add(call("steps"));
        all.add(call("swaps"));
        for (int i = 0; i < 3; i++) all.add(call("swap", i, i & 1));
        for (int s = -1; s <= statements; s++) all.add(call("harm", s));
        for (int what = 0; what < 2; what++) all.add(call("allowed", what));
        for (int h = -1; h < 6; h++) all.add(call("help", h));
        for (int i = 0; i <= kids; i++) all.add(call("lonely", i));
        for (int d : days(today)) {
            all.add(call("plan", d));
            for (int c = 0; c < kids; c++) all.add(call("planned", d, c));
        }
        for (int c = 0; c < kids; c++) askOf(all, c, kids, today);
        for (int s = 0; s < statements; s++) {
            for (int which = 0; which < 2; which++) {
                for (int c = 0; c < kids; c++) all.add(call("holds", s, which, c, today));
            }
        }
        return all;
    }

    private static void askOf(List<Call> all, int c, int kids, int today) {
        all.add(call("classOf", c));
        all.add(call("served", c));
        all.add(call("ring", c));
        for (int what = 0; what <= 12; what++) all.add(call("of", c, what));
        for (int other = 0; other < kids; other++) all.add(call("regret", c, other));
        for (int d : days(today)) {
            all.add(call("was", c, d));
            for (int t = -1; t < 4; t++) {
                for (int what = 0; what < 2; what++) all.add(call("scaled", t, c, what, d));
            }
        }
        for (int p = 0; p < 3; p++) all.add(call("lie", c, p));
    }

    private static int[] days(int today) {
        return today == 0 ? new int[] {0} : today == 1 ? new int[] {0, 1} : new int[] {0, today - 1, today};
    }

    /** Runs that go on by calls that change something, each for a room of its own. */
    private static List<List<Call>> probes(int kids, int today, int statements) {
        List<List<Call>> all = new ArrayList<>();
        List<Call> seats = forAll(kids, "classOf");
        List<Call> read = new ArrayList<>(List.of(call("rule"), call("place"), call("count", 7), call("make"), call("steps")));
        read.addAll(seats);
        for (int s = 0; s < 3; s++) for (int c = 0; c < kids; c++) read.add(call("holds", s, 0, c, today));
        all.add(read);
        all.add(join(List.of(call("feed", 0x3b3b3b3b, 0, 0, 0, 0), call("rule"), call("place"))));
        all.add(join(List.of(call("keep")), seats, List.of(call("change"), call("harm", -1)), seats));
        all.add(join(List.of(call("change")), seats));
        all.add(join(forAll(kids, "late"), seats));
        List<Call> owed = new ArrayList<>();
        for (int c = 0; c < kids; c++) owed.add(call("of", c, 3));
        List<Call> pairs = new ArrayList<>();
        List<Call> ties = new ArrayList<>();
        List<Call> bars = new ArrayList<>();
        for (int a = 0; a < kids; a++) {
            for (int c = 0; c < 3; c++) bars.add(call("not", a, c, true));
            for (int b = 0; b < a; b++) {
                bars.add(call("bar", a, b, true));
                ties.add(call("twins", a, b, true));
                pairs.add(call("regret", a, b));
            }
        }
        all.add(bars);
        all.add(ties);
        all.add(join(List.of(call("close"), call("count", 6)), owed, pairs));
        all.add(join(List.of(call("make"), call("steps")), seats, List.of(call("day", 1), call("count", 9), call("close"), call("day", 2),
            call("count", 9)), owed, pairs));
        all.add(join(List.of(call("day", 1000), call("count", 2), call("count", 9), call("day", 1), call("count", 2))));
        all.add(join(List.of(call("mark", 0, 0, 0, 50), call("scaled", 0, 0, 0, today), call("child", 0, 3, 5), call("helper", 7), call("help", -1),
            call("help", 0), call("classes", 3), call("make")), seats, List.of(call("help", -1), call("help", 0), call("plan", today))));
        return all;
    }

    private static List<Call> forAll(int kids, String name) {
        List<Call> calls = new ArrayList<>();
        for (int c = 0; c < kids; c++) calls.add(call(name, c));
        return calls;
    }

    @SafeVarargs
    private static List<Call> join(List<Call>... parts) {
        List<Call> all = new ArrayList<>();
        for (List<Call> p : parts) all.addAll(p);
        return all;
    }
}
