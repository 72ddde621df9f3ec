import java.util.Arrays;
import java.util.NoSuchElementException;
import java.util.function.IntSupplier;
import java.util.function.Supplier;

/** Each promise of the document by itself: ordinary calls, the edges that it names, and calls that are refused. */
public final class PromiseTest {
    private static final int NONE = ClassMaker.NONE;
    private static final int THROWN = Integer.MIN_VALUE;
    private static final int BLANKS = 0x20202020;
    private static int wrong;
    private static String promise = "";

    public static void main(String[] args) {
        run("1 new object", PromiseTest::newObject);
        run("2 child", PromiseTest::child);
        run("3 mark", PromiseTest::mark);
        run("4 wish", PromiseTest::wish);
        run("5 bar", PromiseTest::bar);
        run("6 twins", PromiseTest::twins);
        run("7 not", PromiseTest::not);
        run("8 classes", PromiseTest::classes);
        run("9 room", PromiseTest::room);
        run("10 feed", PromiseTest::feed);
        run("11 end", PromiseTest::end);
        run("12 rule", PromiseTest::rule);
        run("13 place", PromiseTest::place);
        run("14 holds", PromiseTest::holds);
        run("15 day", PromiseTest::day);
        run("16 plan", PromiseTest::plan);
        run("16 plan: harm", PromiseTest::planHarm);
        run("16 plan: as things are now", PromiseTest::planNow);
        run("17 planned", PromiseTest::planned);
        run("18 keep", PromiseTest::keep);
        run("19 make", PromiseTest::make);
        run("20 steps", PromiseTest::steps);
        run("21 late", PromiseTest::late);
        run("22 change", PromiseTest::change);
        run("23 classOf", PromiseTest::classOf);
        run("24 was", PromiseTest::was);
        run("24 was: a full book", PromiseTest::fullBook);
        run("25 served", PromiseTest::served);
        run("26 harm", PromiseTest::harm);
        run("27 allowed", PromiseTest::allowed);
        run("28, 29 swaps, swap", PromiseTest::swaps);
        run("30 lie", PromiseTest::lie);
        run("31 lonely", PromiseTest::lonely);
        run("32 ring", PromiseTest::ring);
        run("33 helper", PromiseTest::helper);
        run("34 help", PromiseTest::help);
        run("35 word", PromiseTest::word);
        run("36 close", PromiseTest::close);
        run("36 close: 99 at most", PromiseTest::closeOften);
        run("37 regret", PromiseTest::regret);
        run("38 scaled", PromiseTest::scaled);
        run("39 of", PromiseTest::of);
        run("40 count", PromiseTest::count);
        if (wrong > 0) {
            System.exit(1);
        }
        System.out.println("promises: all answers are as due");
    }

    private static void run(String name, Runnable test) {
        promise = name;
        test.run();
    }

    private static void due(String call, int got, int want) {
        if (got != want) {
            wrong++;
            System.out.println(promise + ": " + call + " answered " + got + ", due is " + want);
        }
    }

    private static void due(String call, boolean got, boolean want) {
        due(call, got ? 1 : 0, want ? 1 : 0);
    }

    private static int thrown(IntSupplier call) {
        try {
            return call.getAsInt();
        } catch (NoSuchElementException e) {
            return THROWN;
        }
    }

    /** The call answers so, and there is as much of each as before. */
    private static void refused(ClassMaker x, String call, Supplier<Object> made, Object want) {
        String before = state(x);
        Object got = made.get();
        if (!got.equals(want)) {
            wrong++;
            System.out.println(promise + ": " + call + " answered " + got + ", due is " + want);
        }
        String after = state(x);
        if (!after.equals(before)) {
            wrong++;
            System.out.println(promise + ": " + call + " was refused, but changed\n  " + before + " to\n  " + after);
        }
    }

    /** What there is of each; whether all other calls answer as before is asked for by Script, in rooms of their own. */
    private static String state(ClassMaker x) {
        StringBuilder all = new StringBuilder();
        for (int what = 0; what < 10; what++) all.append(x.count(what)).append(' ');
        return all.append(x.place()).append(' ').append(x.steps()).toString();
    }

    private static void tape(ClassMaker x, String text) {
        x.end(0);
        for (int i = 0; i < text.length(); i += 20) {
            int[] w = new int[5];
            for (int j = 0; j < 20; j++) w[j / 4] = w[j / 4] << 8 | (i + j < text.length() ? text.charAt(i + j) & 255 : 32);
            x.feed(w[0], w[1], w[2], w[3], w[4]);
        }
        x.end(text.length());
    }

    private static int rule(ClassMaker x, String text) {
        tape(x, text);
        return x.rule();
    }

    /** Children of sexes 0, 1, 0, 1, .. in months 1, 2, 3, .. with tag 0 for each third one. */
    private static ClassMaker roomOf(int kids) {
        ClassMaker x = new ClassMaker();
        for (int i = 0; i < kids; i++) x.child(i % 2, 1 + i % 12, i % 3 == 0 ? 1 : 0);
        return x;
    }

    private static String seats(ClassMaker x) {
        StringBuilder all = new StringBuilder();
        for (int c = 0; c < x.count(0); c++) all.append(x.classOf(c) == NONE ? "-" : "" + x.classOf(c));
        return all.toString();
    }

    private static String planned(ClassMaker x, int known) {
        StringBuilder all = new StringBuilder();
        for (int c = 0; c < x.count(0); c++) all.append(x.planned(known, c) == NONE ? "-" : "" + x.planned(known, c));
        return all.toString();
    }

    private static void dueText(String call, String got, String want) {
        if (!got.equals(want)) {
            wrong++;
            System.out.println(promise + ": " + call + " answered " + got + ", due is " + want);
        }
    }

    private static void newObject() {
        ClassMaker x = new ClassMaker();
        int[] want = {0, 2, 0, 0, 0, 0, 0, 0, 0, 0, 0, 0, -1};
        for (int i = 0; i < want.length; i++) due("count(" + i + ")", x.count(i), want[i]);
        due("place", x.place(), NONE);
        due("steps", x.steps(), NONE);
        due("plan", x.plan(0), NONE);
        due("keep", x.keep(), NONE);
        due("make", x.make(), NONE);
        due("change", x.change(), NONE);
        due("close", x.close(), NONE);
        due("swaps", x.swaps(), 0);
        due("lonely", x.lonely(0), NONE);
        due("help", x.help(NONE), NONE);
        due("rule of an empty tape", x.rule(), 0);
        due("NONE", ClassMaker.NONE, -1);
    }

    private static void child() {
        ClassMaker x = new ClassMaker();
        int[][] bad = {{-1, 1, 0}, {2, 1, 0}, {0, 0, 0}, {0, 13, 0}, {0, 1, -1}, {0, 1, 256}, {Integer.MIN_VALUE, 5, 5}, {1, Integer.MAX_VALUE, 5}};
        for (int[] b : bad) refused(x, "child" + Arrays.toString(b), () -> x.child(b[0], b[1], b[2]), NONE);
        due("child", x.child(1, 12, 255), 0);
        due("day", x.day(3), 3);
        for (int i = 1; i < 14; i++) due("child " + i, x.child(0, 1, 0), i);
        refused(x, "a 15th child", () -> x.child(0, 1, 0), NONE);
        due("came", x.of(0, 2), 0);
        due("came", x.of(1, 2), 3);
        due("on the list", x.classOf(0), NONE);
    }

    private static void mark() {
        ClassMaker x = roomOf(2);
        int[][] bad = {{-1, 0, 0, 5}, {4, 0, 0, 5}, {0, -1, 0, 5}, {0, 2, 0, 5}, {0, 0, -1, 5}, {0, 0, 2, 5}, {0, 0, 0, -1}, {0, 0, 0, 101}};
        for (int[] b : bad) refused(x, "mark" + Arrays.toString(b), () -> x.mark(b[0], b[1], b[2], b[3]), false);
        ClassMaker y = roomOf(2);
        for (int i = 0; i < 300; i++) due("mark " + i, y.mark(3, i % 2, 1, i % 101), true);
        due("marks", y.count(3), 300);
        refused(y, "a 301st mark", () -> y.mark(0, 0, 0, 5), false);
        due("scaled", y.scaled(3, 0, 1, 0), 0);
        due("scaled", y.scaled(3, 1, 1, 0), 10);
    }

    private static void wish() {
        ClassMaker x = roomOf(3);
        int[][] bad = {{-1, 0, 1}, {3, 0, 1}, {0, -1, 1}, {0, 3, 1}, {0, 0, 0}, {0, 0, 3}, {0, 0, -2}};
        for (int[] b : bad) refused(x, "wish" + Arrays.toString(b), () -> x.wish(b[0], b[1], b[2]), false);
        due("wish", x.wish(0, 2, 1), true);
        due("the same one again", x.wish(0, 2, 1), true);
        due("one in two places", x.wish(0, 0, 1), true);
        due("named", x.of(1, 10), 2);
        due("none any more", x.wish(0, 2, NONE), true);
        due("none again", x.wish(0, 2, NONE), true);
        due("wish 2", x.of(0, 6), NONE);
        due("wish 0", x.of(0, 4), 1);
    }

    private static void bar() {
        ClassMaker x = roomOf(3);
        int[][] bad = {{0, 0}, {0, 3}, {-1, 0}, {3, 1}};
        for (int[] b : bad) refused(x, "bar" + Arrays.toString(b), () -> x.bar(b[0], b[1], true), false);
        refused(x, "no bar to take", () -> x.bar(0, 1, false), false);
        due("bar", x.bar(1, 0, true), true);
        refused(x, "it is so", () -> x.bar(0, 1, true), false);
        due("bars", x.of(0, 9), 1);
        dueText("parted", planned(x, 0), "010");
        due("bar 2 2", x.bar(2, 0, true), true);
        dueText("parted", planned(x, 0), "011");
        due("bar", x.bar(0, 1, false), true);
        dueText("parted", planned(x, 0), "001");
        due("bars", x.of(0, 9), 1);
    }

    private static void twins() {
        ClassMaker x = roomOf(4);
        int[][] bad = {{1, 1}, {0, 4}, {-1, 0}};
        for (int[] b : bad) refused(x, "twins" + Arrays.toString(b), () -> x.twins(b[0], b[1], true), false);
        refused(x, "no twins to take", () -> x.twins(0, 1, false), false);
        due("twins", x.twins(3, 0, true), true);
        refused(x, "it is so", () -> x.twins(0, 3, true), false);
        due("twins", x.of(3, 8), 1);
        dueText("free without a statement", planned(x, 0), "0000");
        due("rule", rule(x, "twins apart;"), 1);
        dueText("apart", planned(x, 0), "0001");
        due("rule", rule(x, "twins apart;even:1;twins joined;"), 3);
        dueText("the last one says joined", planned(x, 0), "0110");
        due("rule", rule(x, "twins joined;even:1;twins free;"), 3);
        dueText("the last one says free", planned(x, 0), "0011");
        due("twins", x.twins(0, 3, false), true);
        due("twins", x.of(0, 8), 0);
    }

    private static void not() {
        ClassMaker x = roomOf(2);
        int[][] bad = {{-1, 0}, {2, 0}, {0, -1}, {0, 3}};
        for (int[] b : bad) refused(x, "not" + Arrays.toString(b), () -> x.not(b[0], b[1], true), false);
        refused(x, "no not to take", () -> x.not(0, 0, false), false);
        due("not", x.not(1, 0, true), true);
        refused(x, "it is so", () -> x.not(1, 0, true), false);
        dueText("planned", planned(x, 0), "01");
        due("not of class 2 with two classes", x.not(1, 2, true), true);
        due("not", x.not(1, 1, true), true);
        due("no class is left", x.plan(0), -2);
        due("not", x.not(1, 0, false), true);
        dueText("planned", planned(x, 0), "00");
    }

    private static void classes() {
        ClassMaker x = roomOf(3);
        for (int n : new int[] {-1, 0, 1, 4, Integer.MAX_VALUE}) refused(x, "classes(" + n + ")", () -> x.classes(n), false);
        due("two as there are", x.classes(2), true);
        due("three", x.classes(3), true);
        due("classes", x.count(1), 3);
        due("those in class 2", x.count(12), 0);
        rule(x, "even:1;");
        due("keep", x.keep(), 0);
        dueText("list", seats(x), "012");
        refused(x, "one would lose its class", () -> x.classes(2), false);
        due("close", x.close(), 3);
        due("two", x.classes(2), true);
        due("those in class 2", x.count(12), NONE);
        due("plan", x.plan(0), 1);
    }

    private static void room() {
        ClassMaker x = roomOf(3);
        int[][] bad = {{-1, 5}, {3, 5}, {0, -1}, {0, 15}};
        for (int[] b : bad) refused(x, "room" + Arrays.toString(b), () -> x.room(b[0], b[1]), false);
        due("room", x.room(0, 1), true);
        due("room", x.room(2, 0), true);
        due("rooms", x.count(20), 1);
        due("rooms", x.count(21), 14);
        due("rooms", x.count(22), 0);
        dueText("planned", planned(x, 0), "011");
        due("room", x.room(1, 1), true);
        due("too small", x.plan(0), -2);
        due("room", x.room(0, 0), true);
        due("room", x.room(1, 3), true);
        dueText("planned", planned(x, 0), "111");
    }

    private static void feed() {
        ClassMaker x = new ClassMaker();
        for (int i = 1; i <= 20; i++) due("feed " + i, x.feed(BLANKS, BLANKS, BLANKS, BLANKS, BLANKS), 20 * i);
        refused(x, "420 bytes", () -> x.feed(1, 2, 3, 4, 5), NONE);
        due("end", x.end(381), 381);
        refused(x, "401 bytes", () -> x.feed(1, 2, 3, 4, 5), NONE);
        due("end", x.end(380), 380);
        due("feed", x.feed(BLANKS, BLANKS, BLANKS, BLANKS, 0x2020203b), 400);
        due("the last byte", x.rule(), -2);
        due("the last byte's place", x.place(), 399);
        due("the tape", x.count(4), 0);
        x.feed(0x65766580, 0, 0, 0, 0);
        due("a byte above 127", x.rule(), -2);
        due("a word that isn't one", x.place(), 0);
        x.feed(0x20a0ffff, -1, -1, -1, -1);
        due("a byte above 127", x.rule(), -2);
        due("its place", x.place(), 1);
    }

    private static void end() {
        ClassMaker x = new ClassMaker();
        due("end of nothing", x.end(0), 0);
        due("end beyond", x.end(1), NONE);
        tape(x, "even:1;sum gift:2;  ");
        refused(x, "end(-1)", () -> x.end(-1), NONE);
        refused(x, "end(21)", () -> x.end(21), NONE);
        due("end(20)", x.end(20), 20);
        due("end(7)", x.end(7), 7);
        due("end(8)", x.end(8), NONE);
        due("tape", x.count(4), 7);
        due("rule", x.rule(), 1);
    }

    private static void fault(ClassMaker x, String text, int kind, int place) {
        due("rule " + text, rule(x, text), -1 - kind);
        due("place in " + text, x.place(), place);
        due("the tape behind " + text, x.count(4), 0);
    }

    private static void rule() {
        ClassMaker x = roomOf(4);
        due("rule", rule(x, "even:5;even sex=1 and not tag 07:05;"), 2);
        due("statements", x.count(7), 2);
        due("place", x.place(), NONE);
        due("a fault", rule(x, "friend:1;friend"), -2);
        due("statements are as they were", x.count(7), 2);
        due("all kinds", rule(x, " even:0;even\nmonth>6 :3; sum named:99;friend :10;alone not need<2:1;regret:00;"
            + "apart tag 0 from not gift=5 and owed>1;most 3sex=0;least02wishes<1;twins apart;twins joined;twins\nfree ; \n"), 12);
        due("sixteen", rule(x, "friend:1;".repeat(16)), 16);
        due("four terms", rule(x, "even sex=1 and not sex=0 and tag 7and not tag 0:1;"), 1);
        due("the empty one", rule(x, ""), 0);
        due("blanks alone", rule(x, " \n "), 0);
        due("a full tape", rule(x, "sum gift:1;" + " ".repeat(389)), 1);
    }

    private static void place() {
        ClassMaker x = new ClassMaker();
        fault(x, "friend:1;".repeat(16) + " friend:1;", 3, 145);
        fault(x, "friend:1;".repeat(16) + "#", 1, 144);
        fault(x, "friend:1;".repeat(16) + "from", 1, 144);
        fault(x, "even sex=1 and sex=1 and sex=1 and sex=1 and not", 3, 45);
        fault(x, "even sex=1 and sex=1 and sex=1 and sex=1 and even", 1, 45);
        fault(x, "even sex=1 and sex=1 and sex=1 and sex=1 and", 1, 44);
        fault(x, "apart sex=1 from sex=1 and sex=1 and sex=1 and sex=1 and tag 9", 3, 57);
        fault(x, "even tag 8:1;", 2, 9);
        fault(x, "even tag 99", 2, 9);
        fault(x, "even tag 123", 1, 9);
        fault(x, "even tag x", 1, 9);
        fault(x, "even tag", 1, 8);
        fault(x, "even  ", 1, 6);
        fault(x, "Even:1;", 1, 0);
        fault(x, "\t", 1, 0);
        fault(x, "\r", 1, 0);
        fault(x, ";", 1, 0);
        fault(x, "sex", 1, 0);
        fault(x, "evens:1;", 1, 0);
        fault(x, "evenz:1;", 1, 0);
        fault(x, "even{:1;", 1, 4);
        fault(x, "even`:1;", 1, 4);
        fault(x, "even 1:1;", 1, 5);
        fault(x, "even::1;", 1, 5);
        fault(x, "even:1 2;", 1, 7);
        fault(x, "even:123;", 1, 5);
        fault(x, "even:1", 1, 6);
        fault(x, "even:1:", 1, 6);
        fault(x, "sum:1;", 1, 3);
        fault(x, "sum tag 1:1;", 1, 4);
        fault(x, "sum gift=1:1;", 1, 8);
        fault(x, "friend sex=1:1;", 1, 7);
        fault(x, "alone:1;", 1, 5);
        fault(x, "regret;", 1, 6);
        fault(x, "apart sex=1;", 1, 11);
        fault(x, "apart from sex=1;", 1, 6);
        fault(x, "apart sex=1 from;", 1, 16);
        fault(x, "apart sex=1 from sex=1:1;", 1, 22);
        fault(x, "most sex=1;", 1, 5);
        fault(x, "most 1;", 1, 6);
        fault(x, "least 100 sex=1;", 1, 6);
        fault(x, "twins;", 1, 5);
        fault(x, "twins apart joined;", 1, 12);
        fault(x, "twins not;", 1, 6);
        fault(x, "even not not sex=1:1;", 1, 9);
        fault(x, "even not:1;", 1, 8);
        fault(x, "even sex 1:1;", 1, 9);
        fault(x, "even sex=:1;", 1, 9);
        fault(x, "even sex==1:1;", 1, 9);
        fault(x, "even sex=1 sex=1:1;", 1, 11);
        fault(x, "even sex=1 and:1;", 1, 14);
        fault(x, "even sex=1 and tag 3 = 1:1;", 1, 21);
        fault(x, "even:1;;", 1, 7);
        due("rule", rule(x, "even:1;"), 1);
        due("place", x.place(), NONE);
    }

    private static void holds() {
        ClassMaker x = new ClassMaker();
        x.child(0, 6, 0b10000001);
        x.child(1, 7, 0);
        rule(x, "even month>6 and not sex=0:1;apart tag 7 from not tag 0;sum gift:1;most 1 gift=10;friend:1;least 1 wishes>0 and named<1;even:1;regret:1;twins free;alone sex=1:1;");
        int[][] want = {{0, 0, 0, 0}, {0, 0, 1, 1}, {1, 0, 0, 1}, {1, 0, 1, 0}, {1, 1, 0, 0}, {1, 1, 1, 1}, {0, 1, 0, NONE}, {2, 0, 0, NONE},
            {4, 0, 0, NONE}, {3, 0, 0, 0}, {3, 1, 0, NONE}, {5, 1, 0, NONE}, {7, 0, 0, NONE}, {8, 0, 0, NONE}, {9, 0, 0, 0}, {9, 0, 1, 1},
            {9, 1, 1, NONE}, {10, 0, 0, NONE}, {-1, 0, 0, NONE}, {0, 2, 0, NONE}, {0, -1, 0, NONE}, {0, 0, 2, NONE}, {0, 0, -1, NONE},
            // An even without terms holds for all children, but has none behind from, and holds for no others.
            {6, 0, 0, 1}, {6, 0, 1, 1}, {6, 1, 0, NONE}, {6, 2, 0, NONE}, {6, 0, 2, NONE}, {6, 0, -1, NONE}};
        for (int[] w : want) due("holds" + Arrays.toString(w), x.holds(w[0], w[1], w[2], 0), w[3]);
        due("a day to come", x.holds(0, 0, 0, 1), NONE);
        due("a day below 0", x.holds(0, 0, 0, -1), NONE);
        due("a day to come, without terms", x.holds(6, 0, 0, 1), NONE);
        x.day(2);
        due("on an earlier day, without terms", x.holds(6, 0, 0, 1), 1);
        x.mark(0, 0, 0, 9);
        x.mark(0, 1, 0, 3);
        due("gift as known on day 2", x.holds(3, 0, 0, 2), 1);
        due("gift as known on day 1", x.holds(3, 0, 0, 1), 0);
        due("no wish", x.holds(5, 0, 0, 0), 0);
        x.wish(0, 1, 1);
        due("wishes as they are now", x.holds(5, 0, 0, 0), 1);
        x.wish(1, 2, 0);
        due("named now", x.holds(5, 0, 0, 0), 0);
        rule(x, "even owed<1:1;even owed=1:1;even owed>1:1;");
        x.keep();
        x.close();
        due("owed<1", x.holds(0, 0, 0, 0), 0);
        due("owed=1", x.holds(1, 0, 0, 0), 1);
        due("owed>1", x.holds(2, 0, 0, 0), 0);
    }

    private static void day() {
        ClassMaker x = roomOf(2);
        x.keep();
        refused(x, "day(-1)", () -> x.day(-1), NONE);
        refused(x, "day(1001)", () -> x.day(1001), NONE);
        due("no day", x.day(0), 0);
        due("no day has ended", x.count(9), 0);
        due("day", x.day(1), 1);
        due("book", x.count(9), 2);
        for (int i = 0; i < 99; i++) x.day(1000);
        due("day", x.count(2), 99001);
        refused(x, "above 100000", () -> x.day(1000), NONE);
        due("day", x.day(999), 100000);
        refused(x, "above 100000", () -> x.day(1), NONE);
        due("no day", x.day(0), 100000);
        due("book", x.count(9), 2);
    }

    private static void plan() {
        ClassMaker x = new ClassMaker();
        due("nobody", x.plan(0), NONE);
        x.day(2);
        x.child(0, 1, 0);
        due("nobody came by then", x.plan(1), NONE);
        due("no such day", x.plan(3), NONE);
        due("no such day", x.plan(-1), NONE);
        due("without statements", x.plan(2), 0);
        due("least", rule(x, "least 1 sex=0;"), 1);
        due("not allowed", x.plan(2), -2);
        x.child(0, 1, 0);
        due("allowed", x.plan(2), 0);
        dueText("planned", planned(x, 2), "01");
        for (int i = 2; i < 9; i++) x.child(0, 1, 0);
        due("nine", x.plan(2), 0);
        dueText("the first of the least harm", planned(x, 2), "000000001");
        x.day(1);
        x.child(1, 1, 0);
        due("ten", x.plan(3), -3);
        due("nine on that day", x.plan(2), 0);
    }

    private static void planHarm() {
        ClassMaker x = new ClassMaker();
        for (int i = 0; i < 4; i++) x.child(i / 2, 1 + 3 * i, 0);
        String[] rules = {"even sex=1:3;even:2;", "sum month:1;", "even:1;sum month:10;", "alone sex=1:4;even sex=0:1;", "most 1 sex=1;",
            "apart sex=1 from sex=0;", "apart sex=1 from sex=1;", "least 1 sex=1;most 3 month<99;", "even month<2:5;even month<2:2;"};
        int[] harms = {0, 0, 0, 0, 0, 0, 0, 0, 7};
        String[] plans = {"0101", "0110", "0110", "0100", "0001", "0011", "0001", "0001", "0000"};
        for (int i = 0; i < rules.length; i++) {
            due(rules[i], rule(x, rules[i]), rules[i].split(";").length);
            due("plan by " + rules[i], x.plan(0), harms[i]);
            dueText("planned by " + rules[i], planned(x, 0), plans[i]);
        }
        rule(x, "friend:5;even:9;");
        x.wish(0, 2, 3);
        x.wish(1, 0, 0);
        due("friends", x.plan(0), 15);
        dueText("friends: the first of two plans", planned(x, 0), "0011");
        x.classes(3);
        rule(x, "sum month:1;even:1;");
        due("three classes", x.plan(0), 5 + 1);
        dueText("three classes", planned(x, 0), "0012");
        rule(x, "apart sex=0 from sex=0;apart sex=1 from month>0;");
        due("four alone in three classes", x.plan(0), -2);
    }

    /** What changes the best plan is seen at once, though the same day was asked for before. */
    private static void planNow() {
        ClassMaker x = new ClassMaker();
        x.child(0, 1, 0);
        x.child(0, 2, 0);
        x.child(1, 3, 0);
        rule(x, "even gift>5:1;friend:4;twins apart;even owed>0:9;");
        due("plan", x.plan(0), 12);
        x.wish(0, 0, 1);
        due("behind wish", x.plan(0), 8);
        dueText("behind wish", planned(x, 0), "000");
        x.bar(0, 1, true);
        due("behind bar", x.plan(0), 12);
        x.bar(0, 1, false);
        due("behind bar", x.plan(0), 8);
        x.twins(0, 1, true);
        due("behind twins", x.plan(0), 12);
        x.twins(0, 1, false);
        due("behind twins", x.plan(0), 8);
        x.mark(0, 2, 0, 9);
        due("behind mark", x.plan(0), 8);
        x.mark(0, 1, 0, 5);
        due("behind mark", x.plan(0), 9);
        x.not(0, 0, true);
        dueText("behind not", planned(x, 0), "110");
        x.classes(3);
        dueText("behind classes", planned(x, 0), "110");
        x.room(0, 0);
        dueText("behind room", planned(x, 0), "111");
        x.room(1, 2);
        dueText("behind room", planned(x, 0), "112");
        x.room(0, 14);
        dueText("behind room", planned(x, 0), "110");
        x.room(1, 14);
        x.not(0, 0, false);
        dueText("behind not", planned(x, 0), "000");
        x.child(0, 1, 0);
        due("behind child", x.plan(0), 13);
        x.bar(2, 0, true);
        x.bar(3, 0, true);
        dueText("behind bar", planned(x, 0), "0011");
        x.bar(2, 3, true);
        dueText("behind bar", planned(x, 0), "0012");
        x.classes(2);
        due("behind classes", x.plan(0), -2);
        x.classes(3);
        due("behind classes", x.plan(0), 13);
        x.late(0);
        x.late(1);
        x.late(2);
        x.close();
        due("behind close", x.plan(0), 4 * (2 + 2 + 1) + 1 + 9);
        due("a day to come", x.plan(1), NONE);
        x.day(1);
        due("behind day", x.plan(1), 30);
        rule(x, "even:1;");
        due("behind rule", x.plan(1), 1);
    }

    private static void planned() {
        ClassMaker x = roomOf(3);
        due("no such child", x.planned(0, 3), NONE);
        due("no such child", x.planned(0, -1), NONE);
        due("no such day", x.planned(1, 0), NONE);
        due("no such day", x.planned(-1, 0), NONE);
        x.day(1);
        x.child(1, 1, 0);
        due("not in it", x.planned(0, 3), NONE);
        due("in it", x.planned(1, 3), 0);
        rule(x, "even:1;");
        dueText("planned", planned(x, 1), "0011");
        dueText("planned as known on day 0", planned(x, 0), "001-");
        dueText("planned once more", planned(x, 1), "0011");
        x.room(0, 1);
        x.room(1, 1);
        due("not allowed", x.planned(1, 0), NONE);
        for (int i = 4; i < 10; i++) x.child(0, 1, 0);
        x.room(0, 14);
        due("more than nine", x.planned(1, 0), NONE);
        dueText("list", seats(x), "----------");
    }

    private static void keep() {
        ClassMaker x = new ClassMaker();
        due("nobody", x.keep(), NONE);
        for (int i = 0; i < 9; i++) x.child(i % 2, 1, 0);
        rule(x, "even sex=1:5;friend:1;");
        due("keep", x.keep(), 9);
        dueText("list", seats(x), "000001010");
        x.room(0, 1);
        x.room(1, 1);
        refused(x, "none is allowed", () -> x.keep(), -2);
        dueText("list", seats(x), "000001010");
        x.room(0, 14);
        x.child(0, 1, 0);
        refused(x, "ten", () -> x.keep(), -3);
        due("one behind is not on it", x.classOf(9), NONE);
    }

    private static void make() {
        ClassMaker x = roomOf(14);
        due("without a rule", x.make(), 0);
        dueText("list", seats(x), "00000000000000");
        rule(x, "even:1;even sex=1:1;");
        due("even: seven of sex 1", x.make(), 1);
        due("steps", x.steps(), 0);
        dueText("list", seats(x), "01001100110011");
        rule(x, "least 9 sex=0;least 1 month<2;");
        due("lack", x.make(), -4);
        due("lack", x.allowed(1), 11);
        due("it is the list all the same", x.count(5), 14);
        x.room(0, 6);
        x.room(1, 7);
        refused(x, "there is no room", () -> x.make(), -2);
        ClassMaker y = roomOf(4);
        rule(y, "friend:3;even:2;");
        y.wish(0, 0, 3);
        y.wish(1, 0, 2);
        y.wish(2, 1, 1);
        y.wish(3, 2, 0);
        due("make", y.make(), 0);
        dueText("list", seats(y), "0110");
        due("steps", y.steps(), 0);
        y.wish(0, 0, 1);
        y.wish(3, 2, 2);
        y.wish(1, 0, 0);
        y.wish(2, 1, 3);
        due("make", y.make(), 0);
        dueText("list", seats(y), "0011");
        ClassMaker z = new ClassMaker();
        for (int i = 0; i < 5; i++) z.child(i < 3 ? 1 : 0, 1, 0);
        rule(z, "least 2 sex=0;even:1;");
        due("lack first", z.make(), -4);
        due("lack", z.allowed(1), 2);
        due("harm", z.harm(NONE), 1);
    }

    private static void steps() {
        ClassMaker x = new ClassMaker();
        due("nobody", x.make(), NONE);
        due("steps", x.steps(), NONE);
        x.child(0, 1, 0);
        x.room(0, 0);
        x.room(1, 0);
        due("no room", x.make(), -2);
        due("steps", x.steps(), NONE);
        x.room(0, 14);
        x.room(1, 14);
        x.child(0, 1, 0);
        rule(x, "least 1 sex=0;");
        due("make", x.make(), 0);
        due("steps", x.steps(), 1);
        dueText("the first child is moved", seats(x), "10");
        x.room(0, 0);
        x.room(1, 1);
        due("no room", x.make(), -2);
        due("steps of the one before", x.steps(), 1);
        x.room(0, 14);
        rule(x, "least 2 sex=0;");
        due("lacking", x.make(), -4);
        due("steps of one that lacks", x.steps(), 0);
        ClassMaker y = new ClassMaker();
        y.child(1, 5, 0);
        y.child(1, 1, 0);
        y.child(0, 1, 0);
        y.child(0, 5, 0);
        y.not(0, 1, true);
        rule(y, "even:9;sum month:1;even sex=0:1;");
        due("make", y.make(), 0);
        dueText("0110, then 0011 and 0101 by swaps", seats(y), "0101");
        due("swaps are steps, too", y.steps(), 2);
    }

    private static void late() {
        ClassMaker x = roomOf(5);
        due("an empty list", x.late(2), 0);
        dueText("list", seats(x), "--0--");
        refused(x, "it is on it", () -> x.late(2), NONE);
        refused(x, "no such child", () -> x.late(5), NONE);
        refused(x, "no such child", () -> x.late(-1), NONE);
        rule(x, "even:1;");
        due("the emptier one", x.late(4), 1);
        due("the lesser one", x.late(0), 0);
        x.bar(0, 1, true);
        x.bar(4, 1, true);
        refused(x, "none is allowed", () -> x.late(1), -2);
        due("the other one is free", x.late(3), 1);
        rule(x, "least 3 sex=0;");
        x.bar(0, 1, false);
        refused(x, "lack", () -> x.late(1), -2);
        rule(x, "");
        due("late", x.late(1), 0);
        due("all", x.count(5), 5);
        ClassMaker y = roomOf(3);
        rule(y, "twins joined;");
        y.twins(0, 1, true);
        due("its twin isn't on it", y.late(1), 0);
        y.not(0, 0, true);
        due("its twin is where it can't be", y.late(0), -2);
    }

    private static void change() {
        ClassMaker x = roomOf(5);
        refused(x, "an empty list", () -> x.change(), NONE);
        x.make();
        due("nothing to move", x.change(), 0);
        x.bar(0, 1, true);
        x.bar(0, 2, true);
        due("the fewest moves", x.change(), 1);
        dueText("list", seats(x), "10000");
        rule(x, "even:1;");
        due("moves count more than harm", x.change(), 0);
        x.not(0, 1, true);
        due("three are moved", x.change(), 3);
        dueText("list", seats(x), "01100");
        rule(x, "least 4 sex=0;");
        refused(x, "none is allowed", () -> x.change(), -2);
        ClassMaker z = roomOf(2);
        z.not(0, 0, true);
        z.late(0);
        z.late(1);
        z.not(0, 0, false);
        dueText("the best plan", planned(z, 0), "00");
        due("nothing to move", z.change(), 0);
        dueText("the list is another one", seats(z), "10");
        dueText("the best plan is as it was", planned(z, 0), "00");
        z.close();
        z.not(0, 0, true);
        z.late(0);
        z.not(0, 0, false);
        due("one child stays", z.change(), 0);
        dueText("list", seats(z), "1-");
        ClassMaker nine = roomOf(9);
        nine.make();
        nine.bar(0, 8, true);
        due("nine", nine.change(), 1);
        dueText("list", seats(nine), "000000001");
        ClassMaker y = roomOf(10);
        rule(y, "sum month:1;");
        y.late(1);
        y.late(3);
        y.late(9);
        dueText("list", seats(y), "-0-1-----0");
        y.bar(1, 9, true);
        due("of the fewest moves the least harm", y.change(), 1);
        dueText("list", seats(y), "-1-1-----0");
        for (int c = 0; c < 9; c++) due("late", y.late(c) == NONE, c == 1 || c == 3);
        due("ten are on it", y.count(5), 10);
        refused(y, "ten", () -> y.change(), -3);
    }

    private static void classOf() {
        ClassMaker x = roomOf(2);
        due("not on it", x.classOf(0), NONE);
        x.not(0, 0, true);
        x.late(0);
        due("class 1", x.classOf(0), 1);
        due("not on it", x.classOf(1), NONE);
        due("no such child", x.classOf(2), NONE);
        due("no such child", x.classOf(-1), NONE);
    }

    private static void was() {
        ClassMaker x = roomOf(2);
        due("now", x.was(0, 0), NONE);
        x.late(0);
        due("as it is now", x.was(0, 0), 0);
        due("a day to come", x.was(0, 1), NONE);
        due("no such day", x.was(0, -1), NONE);
        due("no such child", x.was(2, 0), NONE);
        due("no such child", x.was(-1, 0), NONE);
        x.day(2);
        x.not(0, 0, true);
        x.change();
        x.late(1);
        due("day 0", x.was(0, 0), 0);
        due("day 1", x.was(0, 1), 0);
        due("day 2, now", x.was(0, 2), 1);
        due("the other one on day 1", x.was(1, 1), NONE);
        due("written", x.count(9), 1);
        x.day(1);
        due("written", x.count(9), 3);
        x.close();
        x.day(1);
        due("written", x.count(9), 5);
        due("day 2", x.was(0, 2), 1);
        due("day 3", x.was(0, 3), NONE);
        due("day 1", x.was(0, 1), 0);
        x.day(5);
        due("nothing new", x.count(9), 5);
    }

    private static void fullBook() {
        ClassMaker x = roomOf(13);
        for (int i = 0; i < 15; i++) {
            x.make();
            x.day(1);
            x.close();
            x.day(1);
        }
        due("written", x.count(9), 390);
        x.make();
        x.day(1);
        due("400 at most", x.count(9), 400);
        due("the last that was written", x.was(9, 30), 0);
        due("not written any more", x.was(10, 30), NONE);
        due("as it is now", x.was(10, 31), 0);
        x.close();
        x.day(1);
        due("nothing more is written", x.count(9), 400);
        due("not written any more", x.was(0, 31), 0);
    }

    private static void served() {
        ClassMaker x = roomOf(5);
        x.wish(0, 0, 4);
        x.wish(0, 1, 2);
        x.wish(0, 2, 1);
        due("not on it", x.served(0), NONE);
        due("no such child", x.served(5), NONE);
        due("no such child", x.served(-1), NONE);
        x.late(0);
        x.late(1);
        due("place 2", x.served(0), 2);
        due("left", x.served(1), 3);
        x.late(2);
        due("place 1", x.served(0), 1);
        x.not(4, 0, true);
        x.late(4);
        due("in the other class", x.served(0), 1);
        x.wish(0, 1, NONE);
        due("by wishes as they are now", x.served(0), 2);
    }

    private static void harm() {
        ClassMaker x = roomOf(4);
        due("an empty list", x.harm(NONE), NONE);
        x.late(0);
        x.late(1);
        x.late(2);
        rule(x, "even:2;sum month:3;friend:5;alone sex=1:7;regret:9;apart sex=1 from sex=1;most 9 sex=1;least 0 sex=1;twins free;even sex=0:1;");
        int[] want = {6, 18, 15, 7, 0, 0, 0, 0, 0, 2};
        for (int s = 0; s < want.length; s++) due("harm(" + s + ")", x.harm(s), want[s]);
        due("in all", x.harm(NONE), 48);
        due("no such", x.harm(10), NONE);
        due("no such", x.harm(-2), NONE);
        x.word(0, 0, 0);
        x.word(1, 0, 0);
        x.word(2, 4, 0);
        x.close();
        x.late(0);
        x.late(1);
        x.late(2);
        dueText("list", seats(x), "010-");
        due("regret of the pair in one class", x.harm(4), 9);
        due("owed are left", x.harm(2), 5 * 6);
    }

    private static void allowed() {
        ClassMaker x = roomOf(4);
        due("an empty list", x.allowed(0), NONE);
        due("an empty list", x.allowed(1), NONE);
        x.make();
        due("allowed", x.allowed(0), 1);
        due("lack", x.allowed(1), 0);
        due("no such", x.allowed(2), NONE);
        due("no such", x.allowed(-1), NONE);
        rule(x, "least 3 sex=0;least 1 tag 0;");
        due("lacking", x.allowed(0), 0);
        due("lack", x.allowed(1), 1 + 3 + 1);
        rule(x, "");
        x.bar(0, 3, true);
        due("a bar", x.allowed(0), 0);
        due("no lack", x.allowed(1), 0);
        x.bar(0, 3, false);
        x.room(0, 3);
        due("room", x.allowed(0), 0);
        x.room(0, 4);
        x.not(2, 0, true);
        due("not", x.allowed(0), 0);
        x.not(2, 0, false);
        rule(x, "most 1 sex=1;");
        due("most", x.allowed(0), 0);
        rule(x, "most 2 sex=1;apart month=2 from month=2;");
        due("one is not apart from itself", x.allowed(0), 1);
        rule(x, "apart month=2 from month<3;");
        due("apart", x.allowed(0), 0);
        rule(x, "twins apart;");
        x.twins(0, 1, true);
        due("twins apart", x.allowed(0), 0);
        rule(x, "twins joined;");
        due("twins joined", x.allowed(0), 1);
    }

    private static void swaps() {
        ClassMaker x = roomOf(6);
        due("an empty list", x.swaps(), 0);
        due("none", x.swap(0, 0), NONE);
        rule(x, "even:1;");
        x.make();
        dueText("list", seats(x), "010101");
        due("nobody wishes", x.swaps(), 0);
        x.wish(0, 0, 3);
        x.wish(1, 0, 2);
        x.wish(4, 1, 1);
        x.wish(5, 2, 2);
        x.wish(3, 0, 0);
        due("swaps", x.swaps(), 4);
        int[][] want = {{0, 1}, {0, 5}, {3, 4}, {4, 5}};
        for (int i = 0; i < 4; i++) for (int w = 0; w < 2; w++) due("swap " + i + " " + w, x.swap(i, w), want[i][w]);
        due("no such", x.swap(4, 0), NONE);
        due("no such", x.swap(-1, 0), NONE);
        due("no such", x.swap(0, 2), NONE);
        due("no such", x.swap(0, -1), NONE);
        x.wish(0, 1, 2);
        due("from place 1 to 0", x.swaps(), 4);
        x.wish(0, 0, NONE);
        x.wish(0, 2, 3);
        due("not to a greater place", x.swaps(), 2);
        x.bar(5, 2, true);
        due("one isn't allowed", x.swaps(), 1);
        rule(x, "apart month=1 from month=5;");
        due("none is allowed by the list", x.allowed(0), 0);
        due("but with the swap", x.swaps(), 1);
        rule(x, "most 2 tag 0;apart month=1 from month=4;");
        due("by the rule as it is now", x.swaps(), 0);
        rule(x, "apart month=1 from month=3;");
        due("by the rule as it is now", x.swaps(), 0);
        rule(x, "apart month=5 from month<5;");
        due("not even then", x.swaps(), 0);
        rule(x, "apart month=3 from month=5;");
        due("it parts those who were together", x.swaps(), 1);
    }

    private static void lie() {
        ClassMaker x = roomOf(4);
        rule(x, "even:9;friend:1;");
        x.wish(0, 0, 3);
        x.wish(0, 1, 2);
        x.wish(1, 0, 3);
        x.wish(3, 0, 1);
        due("the best plan", x.plan(0), 1);
        dueText("planned", planned(x, 0), "0101");
        due("a lie of the first wish alone", thrown(() -> x.lie(0, 0)), 1);
        due("a lie of the second wish alone", thrown(() -> x.lie(0, 1)), 1);
        refused(x, "no such wish", () -> thrown(() -> x.lie(0, 2)), THROWN);
        refused(x, "no such child", () -> thrown(() -> x.lie(4, 0)), THROWN);
        refused(x, "no such child", () -> thrown(() -> x.lie(-1, 0)), THROWN);
        refused(x, "no such place", () -> thrown(() -> x.lie(0, 3)), THROWN);
        refused(x, "no such place", () -> thrown(() -> x.lie(0, -1)), THROWN);
        due("wishes are as they were", x.of(0, 4), 3);
        due("wishes are as they were", x.of(0, 5), 2);
        dueText("the best plan is as it was", planned(x, 0), "0101");
        x.room(0, 1);
        x.room(1, 1);
        refused(x, "none is allowed", () -> thrown(() -> x.lie(0, 0)), THROWN);
        x.room(0, 14);
        for (int i = 4; i < 9; i++) x.child(0, 1, 0);
        due("nine", thrown(() -> x.lie(0, 0)) != THROWN, true);
        x.child(0, 1, 0);
        refused(x, "ten", () -> thrown(() -> x.lie(0, 0)), THROWN);
        ClassMaker y = roomOf(3);
        rule(y, "apart wishes=1 from month>0;");
        y.wish(0, 0, 1);
        y.wish(0, 1, 2);
        due("plan", y.plan(0), 0);
        due("the lie counts in terms", thrown(() -> y.lie(0, 0)), 3);
        dueText("the best plan is by the true wishes", planned(y, 0), "000");
        y.not(2, 0, true);
        dueText("the best plan", planned(y, 0), "001");
    }

    private static void lonely() {
        ClassMaker x = roomOf(4);
        for (int i = 0; i < 4; i++) due("lonely", x.lonely(i), i);
        due("no more", x.lonely(4), NONE);
        due("no such", x.lonely(-1), NONE);
        x.wish(3, 2, 1);
        x.wish(1, 0, 0);
        due("lonely", x.lonely(0), 2);
        due("lonely", x.lonely(1), 3);
        due("no more", x.lonely(2), NONE);
    }

    private static void ring() {
        ClassMaker x = roomOf(14);
        due("alone", x.ring(5), 5);
        due("no such", x.ring(14), NONE);
        due("no such", x.ring(-1), NONE);
        for (int i = 1; i < 13; i++) x.wish(i, i % 3, i + 1);
        due("a chain is no ring", x.ring(13), 13);
        x.wish(13, 0, 1);
        for (int i = 1; i < 14; i++) due("one ring", x.ring(i), 1);
        due("not in it", x.ring(0), 0);
        x.wish(0, 0, 5);
        due("it is not led back", x.ring(0), 0);
        x.wish(7, 0, 0);
        due("now it is", x.ring(13), 0);
        x.wish(13, 0, NONE);
        due("cut", x.ring(13), 13);
        due("the lesser ring", x.ring(6), 0);
        due("no longer in it", x.ring(4), 4);
    }

    private static void helper() {
        ClassMaker x = roomOf(1);
        for (int h : new int[] {0, 61, -1, Integer.MIN_VALUE}) refused(x, "helper(" + h + ")", () -> x.helper(h), NONE);
        for (int i = 0; i < 6; i++) due("helper", x.helper(i == 0 ? 1 : 60), i);
        refused(x, "a seventh", () -> x.helper(5), NONE);
        due("helpers", x.count(8), 6);
    }

    private static void help() {
        ClassMaker x = roomOf(5);
        due("an empty list", x.help(NONE), NONE);
        rule(x, "even:1;");
        x.make();
        dueText("list", seats(x), "01010");
        due("without helpers", x.help(NONE), 25);
        due("no such", x.help(0), NONE);
        x.helper(8);
        x.helper(12);
        due("no such", x.help(2), NONE);
        due("no such", x.help(-2), NONE);
        due("lack", x.help(NONE), 5);
        due("the best way: 3 and 2 lack", x.help(0), 1);
        due("the best way", x.help(1), 0);
        x.helper(10);
        due("lack", x.help(NONE), 0);
        due("of several ways the first", x.help(0), 0);
        due("of several ways the first", x.help(1), 0);
        due("of several ways the first", x.help(2), 1);
        x.mark(0, 0, 1, 90);
        x.mark(0, 2, 1, 70);
        x.mark(0, 4, 1, 80);
        due("needs of 10, 0 and 5, as before", x.help(NONE), 0);
        x.mark(0, 1, 1, 95);
        due("needs of 6, 0 and 3, of 10 and 5", x.help(NONE), 0);
        due("helper", x.help(0), 1);
        due("helper", x.help(1), 0);
        due("helper", x.help(2), 1);
        x.close();
        due("an empty list", x.help(0), NONE);
    }

    private static void word() {
        ClassMaker x = roomOf(2);
        refused(x, "not on it", () -> x.word(0, 5, 0), false);
        x.late(0);
        int[][] bad = {{1, 5, 0}, {2, 5, 0}, {-1, 5, 0}, {0, -1, 0}, {0, 11, 0}, {0, 0, -1}, {0, 0, 6}};
        for (int[] b : bad) refused(x, "word" + Arrays.toString(b), () -> x.word(b[0], b[1], b[2]), false);
        due("word", x.word(0, 10, 5), true);
        due("how it went", x.of(0, 11), 10);
        due("doubt", x.of(0, 12), 5);
        due("word", x.word(0, 0, 1), true);
        due("the last told counts", x.of(0, 11), 0);
        due("the last told counts", x.of(0, 12), 1);
    }

    private static void close() {
        ClassMaker x = roomOf(6);
        refused(x, "an empty list", () -> x.close(), NONE);
        rule(x, "even:1;");
        x.make();
        x.late(0);
        dueText("list", seats(x), "010101");
        x.wish(0, 0, 2);
        x.wish(1, 0, 2);
        x.word(0, 4, 0);
        x.word(2, 2, 2);
        x.word(4, 5, 0);
        x.word(1, 0, 4);
        x.word(3, 0, 5);
        due("left", x.close(), 5);
        due("both below 5", x.regret(0, 2), 1);
        due("one is not", x.regret(0, 4), 0);
        due("two classes", x.regret(0, 1), 0);
        due("doubt counts", x.regret(1, 3), 0);
        due("without words", x.regret(1, 5), 0);
        due("served", x.of(0, 3), 0);
        due("left", x.of(1, 3), 1);
        due("words are none", x.of(0, 11), NONE);
        due("words are none", x.of(0, 12), NONE);
        dueText("list", seats(x), "------");
        due("years", x.count(6), 1);
        rule(x, "");
        x.late(1);
        x.late(2);
        x.late(3);
        due("left", x.close(), 2);
        due("served now", x.of(1, 3), 0);
        due("left again", x.of(2, 3), 2);
        due("not on it", x.of(4, 3), 1);
        due("years", x.count(6), 2);
        due("no regret without words", x.regret(1, 3), 0);
    }

    private static void closeOften() {
        ClassMaker x = roomOf(2);
        for (int i = 0; i < 101; i++) {
            x.make();
            x.word(0, 0, 0);
            x.word(1, 4, 0);
            x.close();
            if (i == 97) {
                due("regret", x.regret(0, 1), 98);
                due("owed", x.of(1, 3), 98);
            }
        }
        due("regret", x.regret(1, 0), 99);
        due("owed", x.of(0, 3), 99);
    }

    private static void regret() {
        ClassMaker x = roomOf(3);
        due("at first", x.regret(0, 2), 0);
        int[][] bad = {{0, 0}, {0, 3}, {-1, 0}, {3, 3}};
        for (int[] b : bad) due("regret" + Arrays.toString(b), x.regret(b[0], b[1]), NONE);
        x.make();
        x.word(2, 1, 1);
        x.word(1, 1, 1);
        x.close();
        due("told", x.regret(1, 2), 1);
        due("either way", x.regret(2, 1), 1);
        rule(x, "regret:7;");
        due("it parts the pair", x.plan(0), 0);
        dueText("planned", planned(x, 0), "001");
        x.room(1, 0);
        due("harm", x.plan(0), 7);
    }

    private static void scaled() {
        ClassMaker x = roomOf(5);
        due("none told", x.scaled(0, 0, 0, 0), NONE);
        due("none told at all", x.scaled(NONE, 0, 0, 0), NONE);
        x.mark(0, 0, 0, 50);
        due("no others", x.scaled(0, 0, 0, 0), 5);
        x.mark(0, 1, 0, 50);
        due("one alike isn't lower", x.scaled(0, 0, 0, 0), 0);
        x.mark(0, 2, 0, 20);
        x.mark(0, 3, 0, 90);
        due("cut down: 10 of 3", x.scaled(0, 0, 0, 0), 3);
        due("the highest", x.scaled(0, 3, 0, 0), 10);
        due("the other sort", x.scaled(0, 0, 1, 0), NONE);
        x.mark(1, 0, 0, 7);
        due("another teacher", x.scaled(1, 0, 0, 0), 5);
        due("all: (3 + 5) / 2", x.scaled(NONE, 0, 0, 0), 4);
        x.mark(2, 0, 0, 9);
        x.mark(2, 1, 0, 8);
        due("all: (3 + 5 + 10) / 3", x.scaled(NONE, 0, 0, 0), 6);
        x.day(2);
        x.mark(0, 0, 0, 100);
        due("the last told counts", x.scaled(0, 0, 0, 2), 10);
        due("as known on day 1", x.scaled(0, 0, 0, 1), 3);
        due("as known on day 0", x.scaled(0, 3, 0, 0), 10);
        due("others' marks, too", x.scaled(0, 3, 0, 2), 6);
        int[][] bad = {{4, 0, 0, 0}, {-2, 0, 0, 0}, {0, 5, 0, 0}, {0, -1, 0, 0}, {0, 0, 2, 0}, {0, 0, -1, 0}, {0, 0, 0, 3}, {0, 0, 0, -1}};
        for (int[] b : bad) due("scaled" + Arrays.toString(b), x.scaled(b[0], b[1], b[2], b[3]), NONE);
    }

    private static void of() {
        ClassMaker x = roomOf(3);
        x.day(4);
        x.child(1, 12, 200);
        x.wish(3, 0, 1);
        x.wish(3, 2, 0);
        x.wish(0, 0, 3);
        x.wish(1, 1, 3);
        x.wish(1, 2, 3);
        x.twins(3, 0, true);
        x.twins(3, 1, true);
        x.bar(2, 3, true);
        x.late(3);
        x.close();
        x.late(3);
        x.word(3, 7, 2);
        int[] want = {1, 12, 4, 1, 1, NONE, 0, 200, 2, 1, 3, 7, 2};
        for (int w = 0; w < want.length; w++) {
            int what = w;
            due("of(3, " + w + ")", thrown(() -> x.of(3, what)), want[w]);
        }
        due("no words", thrown(() -> x.of(2, 11)), NONE);
        int[][] bad = {{4, 0}, {-1, 0}, {0, 13}, {0, -1}};
        for (int[] b : bad) due("of" + Arrays.toString(b), thrown(() -> x.of(b[0], b[1])), THROWN);
    }

    private static void count() {
        ClassMaker x = roomOf(5);
        x.day(3);
        x.classes(3);
        x.mark(0, 0, 0, 0);
        rule(x, "even:1;friend:1;");
        tape(x, "even:1");
        x.helper(3);
        x.make();
        x.day(1);
        x.close();
        x.make();
        x.room(2, 4);
        int[] want = {5, 3, 4, 1, 6, 5, 1, 2, 1, 5, 2, 2, 1, NONE};
        for (int w = 0; w < want.length; w++) due("count(" + w + ")", x.count(w), want[w]);
        due("room", x.count(20), 14);
        due("room", x.count(22), 4);
        for (int w : new int[] {-1, 14, 19, 23, Integer.MIN_VALUE, Integer.MAX_VALUE}) due("count(" + w + ")", x.count(w), NONE);
    }
}
