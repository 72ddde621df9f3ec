/**
 * The smallest and the greatest int as every argument of every call: in a new room, in one where something was told of
 * everything, and in one that is full. Each such call is refused (feed alone takes all numbers), and changes nothing.
 */
public final class BoundaryIntsTest {
    private static final String FULL_OF_BLANKS = " 0x20202020".repeat(5);

    // Calls that would be taken in the second room, with the answer to what isn't taken.
    private static final String[] CALLS = {
        "Promise 2, 'NONE: other numbers': child 0 1 0 -> NONE",
        "Promise 3, 'False: no such TEACHER, CHILD, what, number': mark 0 0 0 50 -> false",
        "Promise 4, 'False: no such CHILD, PLACE, other one': wish 0 0 1 -> false",
        "Promise 5, 'False: no such two': bar 0 3 true -> false",
        "Promise 5, 'False: no such two': bar 0 1 false -> false",
        "Promise 6, 'False: no such two': twins 0 3 true -> false",
        "Promise 6, 'False: no such two': twins 1 2 false -> false",
        "Promise 7, 'False: no such CHILD, CLASS': not 1 2 true -> false",
        "Promise 7, 'False: no such CHILD, CLASS': not 0 2 false -> false",
        "Promise 8, 'False: another n': classes 3 -> false",
        "Promise 9, 'False: other numbers': room 0 14 -> false",
        "Promise 11, 'NONE if it has less, or n is below 0': end 1 -> NONE",
        "Promise 14, 'NONE: no such ones': holds 0 0 0 0 -> NONE",
        "Promise 14, 'NONE: no such ones': holds 2 1 0 0 -> NONE",
        "Promise 15, 'NONE: another n': day 1 -> NONE",
        "Promise 16, 'NONE: no such DAY': plan 0 -> NONE",
        "Promise 17, 'NONE: plan() tells no HARM, no such CHILD': planned 0 0 -> NONE",
        "Promise 21, 'NONE: no such CHILD': late 4 -> NONE",
        "Promise 23, 'NONE': classOf 0 -> NONE",
        "Promise 24, 'NONE: no such ones': was 0 0 -> NONE",
        "Promise 25, 'NONE: it isn't on it': served 0 -> NONE",
        "Promise 26, 'NONE: there is none such': harm 0 -> NONE",
        "Promise 27, 'NONE: another what': allowed 0 -> NONE",
        "Promise 29, 'NONE': swap 0 0 -> NONE",
        "Promise 30, 'NoSuchElementException: no such CHILD, PLACE': lie 0 0 -> throws",
        "Promise 31, 'NONE': lonely 0 -> NONE",
        "Promise 32, 'NONE: no such one': ring 0 -> NONE",
        "Promise 33, 'NONE: other HOURS': helper 5 -> NONE",
        "Promise 34, 'NONE: no such HELPER': help 0 -> NONE",
        "Promise 35, 'False: it isn't on THE LIST, other numbers': word 0 5 1 -> false",
        "Promise 37, 'NONE: no such two': regret 0 1 -> NONE",
        "Promise 38, 'NONE: no such ones': scaled 0 0 0 0 -> NONE",
        "Promise 39, 'NoSuchElementException: no such CHILD, what': of 0 0 -> throws",
        "Promise 40, 'NONE for others': count 0 -> NONE",
    };

    private static final String TOLD = """
        child 0 3 1
        child 1 8 2
        child 1 12 130
        child 0 1 0
        mark 0 0 0 50
        mark 0 1 0 60
        mark 1 2 1 70
        wish 0 0 1
        wish 0 1 2
        wish 1 0 2
        wish 3 2 0
        bar 0 1 true
        twins 1 2 true
        not 0 2 true
        classes 3
        room 2 5
        rule 'even sex=1:5;friend:9;apart tag 0 from tag 1;twins free;sum need:2;'
        keep
        word 0 3 1
        word 2 4 0
        helper 7
        helper 20
        day 2
        child 0 5 0
        mark 0 0 0 10
        feed 0x6576656e 0x3a313b20 0x20202020 0x20202020 0x20202020
        """;

    private static final String FULL = """
        14 * child 1 12 255
        40 * mark 3 13 1 100
        rule '{16*even:1;}'
        6 * helper 60
        wish 0 0 13
        wish 13 2 0
        bar 0 1 true
        make
        word 0 4 0
        100 * day 1000
        """ + "20 * feed" + FULL_OF_BLANKS;

    public static void main(String[] args) {
        for (String line : CALLS) {
            int name = line.indexOf("': ") + 1;
            String sentence = line.substring(0, name);
            String call = line.substring(name + 2);
            ofRoom(sentence + ", a new room", "", call);
            ofRoom(sentence + ", a room with some of everything", TOLD, call);
            ofRoom(sentence + ", a full room", FULL, call);
        }
        Script.test("Promise 10: feed takes all numbers", """
            feed MIN MAX MIN MAX MIN -> 20
            feed MAX MIN MAX MIN MAX -> 40
            feed 0 -1 1 0 -1 -> 60
            """);
        taken();
        Script.end("the smallest and the greatest int");
    }

    /** Each number of the call by itself, and all of them, are the smallest and the greatest int. */
    private static void ofRoom(String sentence, String room, String call) {
        String[] words = call.substring(0, call.indexOf(" -> ")).split(" ");
        String due = call.substring(call.indexOf(" -> "));
        StringBuilder lines = new StringBuilder();
        for (String extreme : new String[] {"MIN", "MAX"}) {
            String all = words[0];
            for (int i = 1; i < words.length; i++) {
                boolean isNumber = !words[i].equals("true") && !words[i].equals("false");
                all += " " + (isNumber ? extreme : words[i]);
                if (isNumber) {
                    String[] one = words.clone();
                    one[i] = extreme;
                    lines.append("! ").append(String.join(" ", one)).append(due).append('\n');
                }
            }
            lines.append("! ").append(all).append(due).append('\n');
        }
        Script.test(sentence, room, lines.toString());
    }

    /** The calls above are taken in the second room, so that it is the one number for which they are refused. */
    private static void taken() {
        Script.test("the room with some of everything: a child", TOLD, "child 0 1 0 -> 5", "mark 0 0 0 50 -> true", "wish 0 0 1 -> true", "bar 0 3 true -> true",
            "bar 0 1 false -> true", "twins 0 3 true -> true", "twins 1 2 false -> true", "not 1 2 true -> true", "not 0 2 false -> true", "classes 3 -> true",
            "room 0 14 -> true", "end 1 -> 1", "day 1 -> 3");
        Script.test("the room with some of everything: what is asked for", TOLD, "holds 0 0 0 0 -> 0", "holds 2 1 0 0 -> 0", "plan 0 -> 42", "planned 0 0 -> 0", "classOf 0 -> 0",
            "was 0 0 -> 0", "served 0 -> 3", "harm 0 -> 5", "allowed 0 -> 1", "lie 0 0 -> 3", "lonely 0 -> 3", "ring 0 -> 0", "help 0 -> 1", "regret 0 1 -> 0",
            "scaled 0 0 0 0 -> 0", "of 0 0 -> 0", "count 0 -> 5", "helper 5 -> 2", "word 0 5 1 -> true", "late 4 -> 1");
        Script.test("the full room", FULL, "count 0 -> 14", "count 2 -> 100000", "count 4 -> 400", "count 5 -> 14", "count 7 -> 16", "count 8 -> 6", "count 3 -> 40");
    }
}
