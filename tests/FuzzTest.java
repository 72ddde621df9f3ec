import java.lang.reflect.InvocationTargetException;
import java.lang.reflect.Method;
import java.util.ArrayList;
import java.util.Arrays;
import java.util.Comparator;
import java.util.List;
import java.util.Random;

/** Long runs of calls, made by fixed seeds, on ClassMaker and on NaiveRoom: every answer must be the same. */
public final class FuzzTest {
    private static final List<String> WORDS = List.of("sex", "month", "gift", "need", "owed", "wishes", "named");
    private static final List<String> STRAY = List.of("even", "sum", "friend", "alone", "regret", "apart", "most", "least", "twins",
        "joined", "free", "not", "and", "from", "tag", "sex", "need", "x", "evens", ";", ":", "<", "=", ">", "#", "\t", "123", "7", "8",
        "00", "E", "\u00e9", " ", "\n");
    private static final Method[] CALLS = calls();

    private final Random random;
    private final ClassMaker room = new ClassMaker();
    private final NaiveRoom naive = new NaiveRoom();
    private final StringBuilder story = new StringBuilder();
    private final int mostKids;
    private final int slack;
    private int made;
    private boolean wrong;

    private FuzzTest(long seed) {
        random = new Random(seed);
        mostKids = List.of(5, 6, 7, 8, 14, 15).get((int) (seed % 6));
        slack = (int) (seed / 6 % 3);
    }

    private static Method[] calls() {
        return Arrays.stream(ClassMaker.class.getDeclaredMethods())
            .filter(m -> java.lang.reflect.Modifier.isPublic(m.getModifiers()))
            .sorted(Comparator.comparing(Method::getName)).toArray(Method[]::new);
    }

    public static void main(String[] args) {
        int first = args.length > 0 ? Integer.parseInt(args[0]) : 1;
        int last = args.length > 1 ? Integer.parseInt(args[1]) : 120;
        int bad = 0;
        for (int seed = first; seed <= last && bad < 5; seed++) {
            FuzzTest run = new FuzzTest(seed);
            run.go();
            if (run.wrong) {
                bad++;
                System.out.println("seed " + seed + ":\n" + run.story);
            }
        }
        if (bad > 0) {
            System.exit(1);
        }
        System.out.println("fuzz: all answers are the same");
    }

    private static Object answer(Object of, String name, Class<?>[] types, Object[] args) {
        try {
            return of.getClass().getDeclaredMethod(name, types).invoke(of, args);
        } catch (InvocationTargetException e) {
            return "throws " + e.getTargetException().getClass().getName();
        } catch (ReflectiveOperationException e) {
            throw new IllegalStateException(e);
        }
    }

    private Object call(String name, Object... args) {
        if (made >= 512 || wrong) {
            return null;
        }
        made++;
        Class<?>[] types = Arrays.stream(CALLS).filter(m -> m.getName().equals(name)).findFirst().orElseThrow().getParameterTypes();
        Object got = answer(room, name, types, args);
        Object due = answer(naive, name, types, args);
        story.append("  ").append(name).append(Arrays.toString(args)).append(" -> ").append(got);
        if (!got.equals(due)) {
            story.append(", due is ").append(due);
            wrong = true;
        }
        story.append('\n');
        return got;
    }

    private int below(int n) {
        return random.nextInt(n);
    }

    private boolean chance(int percent) {
        return below(100) < percent;
    }

    private int anyKid() {
        return chance(3) ? List.of(-2, -1, 14, 15, 99, Integer.MIN_VALUE, Integer.MAX_VALUE).get(below(7)) : below(Math.max(1, naive.kids.size()));
    }

    private int number(int low, int high) {
        if (chance(4)) {
            return List.of(low - 1, high + 1, Integer.MIN_VALUE, Integer.MAX_VALUE, low, high).get(below(6));
        }
        return low + below(high - low + 1);
    }

    private int anyDay() {
        return chance(50) ? naive.today : number(0, Math.max(0, naive.today));
    }

    private void go() {
        int kids = 1 + below(mostKids);
        for (int i = 0; i < kids; i++) {
            newKid();
            if (chance(15)) {
                call("day", below(3));
            }
        }
        for (int i = below(3 * kids + 1); i > 0; i--) {
            call("wish", anyKid(), below(3), anyKid());
        }
        int style = below(4);
        while (made < 512 && !wrong) {
            act(style);
        }
    }

    private void newKid() {
        call("child", number(0, 1), number(1, 12), number(0, 255) & (chance(90) ? 255 : -1));
    }

    private void act(int style) {
        int what = below(100);
        if (what < 3 && naive.kids.size() < mostKids) {
            newKid();
        } else if (what < 10) {
            call("mark", number(0, 3), anyKid(), number(0, 1), chance(50) ? 10 * below(5) : number(0, 100));
        } else if (what < 16) {
            call("wish", anyKid(), number(0, 2), chance(25) ? -1 : anyKid());
        } else if (what < 18 + slack) {
            call("bar", anyKid(), anyKid(), chance(50));
        } else if (what < 22) {
            call("twins", anyKid(), anyKid(), chance(50));
        } else if (what < 24) {
            call("not", anyKid(), number(0, 2), chance(40));
        } else if (what < 26) {
            call("classes", number(2, 3));
        } else if (what < 27) {
            call("room", number(0, 2), chance(70) ? 14 : number(0, 14));
        } else if (what < 35) {
            newRule();
        } else if (what < 40 + 3 * style) {
            call("day", chance(85) ? below(3) : number(0, 1000));
        } else if (what < 52) {
            bigCall();
        } else if (what < 54) {
            call("helper", number(1, 60) / (chance(60) ? 5 : 1));
        } else if (what < 58) {
            call("word", anyKid(), chance(60) ? below(3) : number(0, 10), chance(60) ? below(2) : number(0, 5));
        } else if (what < 59 + style) {
            call("close");
        } else {
            ask();
        }
    }

    private void bigCall() {
        switch (below(8)) {
            case 0: call("keep"); break;
            case 1: case 2: call("make"); call("steps"); break;
            case 3: call("change"); break;
            case 4: call("plan", anyDay()); break;
            case 5: call("lie", anyKid(), number(0, 2)); break;
            case 6:
                int known = anyDay();
                for (int i = 0; i < 3; i++) {
                    call("planned", known, anyKid());
                }
                break;
            default:
                for (int c = 0; c < naive.kids.size(); c++) {
                    if (!naive.list.containsKey(c)) {
                        call("late", c);
                    }
                }
        }
    }

    private void ask() {
        switch (below(17)) {
            case 0: call("holds", number(0, 4), number(0, 1), anyKid(), anyDay()); break;
            case 1: call("classOf", anyKid()); break;
            case 2: call("was", anyKid(), anyDay()); break;
            case 3: call("served", anyKid()); break;
            case 4: call("harm", number(-1, 5)); break;
            case 5: call("allowed", number(0, 1)); break;
            case 6: call("swaps"); break;
            case 7: call("swap", number(0, 3), number(0, 1)); break;
            case 8: call("lonely", number(0, 5)); break;
            case 9: call("ring", anyKid()); break;
            case 10: call("help", number(-1, Math.max(0, naive.hours.size()))); break;
            case 11: call("regret", anyKid(), anyKid()); break;
            case 12: call("scaled", number(-1, 3), anyKid(), number(0, 1), anyDay()); break;
            case 13: case 14: call("of", anyKid(), number(0, 12)); break;
            case 15: call("count", chance(70) ? below(25) : number(0, 30)); break;
            default: call("place");
        }
    }

    // Rules

    private void newRule() {
        String text = ruleText();
        if (chance(25)) {
            text = spoiled(text);
        }
        if (text.length() > 400) {
            text = text.substring(0, 400);
        }
        if (naive.tape.size() > 0 && chance(90)) {
            call("end", 0);
        }
        byte[] bytes = new byte[(text.length() + 19) / 20 * 20];
        for (int i = 0; i < bytes.length; i++) {
            bytes[i] = (byte) (i < text.length() ? text.charAt(i) : below(256));
        }
        for (int i = 0; i < bytes.length; i += 20) {
            int[] w = new int[5];
            for (int j = 0; j < 20; j++) {
                w[j / 4] = w[j / 4] << 8 | bytes[i + j] & 255;
            }
            call("feed", w[0], w[1], w[2], w[3], w[4]);
        }
        call("end", chance(97) ? text.length() : number(0, text.length() + 1));
        if (chance(97)) {
            story.append("  (").append(text).append(")\n");
            call("rule");
            call("place");
        }
    }

    private String gap() {
        return chance(70) ? "" : List.of(" ", "\n", "  ", " \n ").get(below(4));
    }

    private String join(List<String> tokens) {
        StringBuilder text = new StringBuilder(gap());
        String last = "";
        for (String t : tokens) {
            boolean same = !last.isEmpty() && (letter(last) && letter(t) || digit(last) && digit(t));
            text.append(same ? " " : gap()).append(t);
            last = t;
        }
        return text.append(gap()).toString();
    }

    private static boolean letter(String t) {
        return Character.isLowerCase(t.charAt(0));
    }

    private static boolean digit(String t) {
        return Character.isDigit(t.charAt(0));
    }

    private String ruleText() {
        List<String> tokens = new ArrayList<>();
        int n = chance(5) ? 15 + below(4) : below(5);
        for (int i = 0; i < n; i++) {
            statement(tokens, n > 10);
            tokens.add(";");
        }
        return join(tokens);
    }

    private void statement(List<String> out, boolean brief) {
        switch (brief ? List.of(2, 3, 4, 1).get(below(4)) : below(12)) {
            case 0: case 9: out.add("even"); terms(out, 0); weight(out); break;
            case 1: out.add("sum"); out.add(WORDS.get(below(7))); weight(out); break;
            case 2: case 10: case 11: out.add("friend"); weight(out); break;
            case 3: out.add("even"); weight(out); break;
            case 4: out.add("regret"); weight(out); break;
            case 5: out.add("apart"); terms(out, 2); out.add("from"); terms(out, 2); break;
            case 6: out.add("most"); out.add("" + (1 + below(5))); terms(out, 1); break;
            case 7: out.add("least"); out.add("" + below(3)); terms(out, 1); break;
            default:
                if (chance(50)) {
                    out.add("twins");
                    out.add(List.of("apart", "joined", "free").get(below(3)));
                } else {
                    out.add("alone");
                    terms(out, 1);
                    weight(out);
                }
        }
    }

    private void weight(List<String> out) {
        out.add(":");
        out.add(String.format(chance(20) ? "%02d" : "%d", chance(80) ? below(10) : below(100)));
    }

    private void terms(List<String> out, int least) {
        int n = chance(3) ? 4 + below(2) : least + (chance(30) ? 1 : 0) + (least == 0 ? 1 : 0);
        for (int i = 0; i < n; i++) {
            if (i > 0) {
                out.add("and");
            }
            if (chance(25)) {
                out.add("not");
            }
            if (chance(35)) {
                out.add("tag");
                out.add("" + (chance(96) ? below(8) : 8 + below(92)));
            } else {
                String word = WORDS.get(below(7));
                out.add(word);
                out.add(List.of("<", "=", ">").get(below(3)));
                out.add("" + (word.equals("sex") ? below(2) : word.equals("wishes") || word.equals("named") ? below(4) : below(11)));
            }
        }
    }

    private String spoiled(String text) {
        int at = below(text.length() + 1);
        String stray = STRAY.get(below(STRAY.size()));
        switch (below(3)) {
            case 0: return text.substring(0, at);
            case 1: return text.substring(0, at) + stray + text.substring(at);
            default: return text.substring(0, at) + stray + text.substring(Math.min(text.length(), at + stray.length()));
        }
    }
}
