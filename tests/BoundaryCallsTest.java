/**
 * For each sentence of the promises that names a boundary case a test of its own: the last that is taken and the first
 * that isn't, the empty and the full, and each refused call (the lines with !, see Script).
 */
public final class BoundaryCallsTest {
    private static final String BLANK = " 0x20202020";

    public static void main(String[] args) {
        newObject();
        children();
        marks();
        wishesAndPairs();
        classesAndRooms();
        tape();
        rules();
        days();
        plans();
        byHand();
        lateAndChange();
        askList();
        swapsAndLies();
        ringsAndHelpers();
        years();
        scaledOfCount();
        Script.end("promises at their boundaries");
    }

    private static void test(String sentence, String... lines) {
        Script.test(sentence, lines);
    }

    private static String kids(int n) {
        return n + " * child 0 1 0";
    }

    private static void newObject() {
        test("Promise 1, 'No CHILDREN, HELPERS'", """
            count 0 -> 0
            count 8 -> 0
            classOf 0 -> NONE
            lonely 0 -> NONE
            ring 0 -> NONE
            ! of 0 0 -> throws
            ! wish 0 0 NONE -> false
            ! wish 0 0 1 -> false
            ! bar 0 1 true -> false
            ! twins 0 1 true -> false
            ! not 0 0 true -> false
            ! mark 0 0 0 50 -> false
            ! make -> NONE
            ! keep -> NONE
            plan 0 -> NONE
            planned 0 0 -> NONE
            swaps -> 0
            helper 60 -> 0
            child 1 12 255 -> 0
            """);
        test("Promise 1, 'DAY 0'", """
            count 2 -> 0
            plan 1 -> NONE
            day 0 -> 0
            day 1 -> 1
            """);
        test("Promise 1, 'an empty TAPE'", """
            count 4 -> 0
            end 0 -> 0
            ! end 1 -> NONE
            rule -> 0
            place -> NONE
            """);
        test("Promise 1, 'an empty RULE'", """
            count 7 -> 0
            child 0 1 0
            ! holds 0 0 0 0 -> NONE
            keep -> 0
            harm 0 -> NONE
            harm NONE -> 0
            """);
        test("Promise 1, 'an empty LIST'", """
            count 5 -> 0
            count 10 -> 0
            count 11 -> 0
            harm NONE -> NONE
            allowed 0 -> NONE
            allowed 1 -> NONE
            help NONE -> NONE
            ! change -> NONE
            ! close -> NONE
            count 6 -> 0
            count 9 -> 0
            """);
        test("What it is, 'An object is used for at most 512 calls': the 512th is one of them",
            "child 0 1 0 -> 0", "255 * wish 0 0 NONE", "254 * helper 61", "child 1 2 3 -> 1", "of 1 7 -> 3");
    }

    private static void children() {
        test("Promise 2, 'NONE: other numbers': SEX (0, 1)", """
            ! child -1 1 0 -> NONE
            child 0 1 0 -> 0
            child 1 1 0 -> 1
            ! child 2 1 0 -> NONE
            of 0 0 -> 0
            of 1 0 -> 1
            """);
        test("Promise 2, 'NONE: other numbers': MONTH (1 to 12)", """
            ! child 0 0 0 -> NONE
            ! child 0 -1 0 -> NONE
            child 0 1 0 -> 0
            child 0 12 0 -> 1
            ! child 0 13 0 -> NONE
            of 0 1 -> 1
            of 1 1 -> 12
            """);
        test("Promise 2, 'NONE: other numbers': TAGS (bits of TAGS 0 to 7)", """
            ! child 0 1 -1 -> NONE
            child 0 1 0 -> 0
            child 0 1 255 -> 1
            ! child 0 1 256 -> NONE
            ! child 0 1 257 -> NONE
            of 0 7 -> 0
            of 1 7 -> 255
            """);
        test("Promise 2, 'NONE: 14 are there'; Terms, 'CHILDREN, at most 14, numbered as they come'", """
            12 * child 0 1 0
            child 0 1 0 -> 12
            child 1 12 255 -> 13
            ! child 0 1 0 -> NONE
            ! child 1 12 255 -> NONE
            count 0 -> 14
            of 13 7 -> 255
            of 12 7 -> 0
            """);
        test("Promise 2, a refused call changes nothing: the next one has the number that it would have had", """
            day 5 -> 5
            ! child 2 1 0 -> NONE
            child 1 2 3 -> 0
            of 0 2 -> 5
            """);
    }

    private static void marks() {
        test("Promise 3, 'False: no such TEACHER' (0 to 3)", """
            child 0 1 0
            ! mark -1 0 0 50 -> false
            mark 0 0 0 50 -> true
            mark 3 0 0 50 -> true
            ! mark 4 0 0 50 -> false
            count 3 -> 2
            scaled 0 0 0 0 -> 5
            scaled 3 0 0 0 -> 5
            """);
        test("Promise 3, 'False: no such CHILD'", """
            ! mark 0 0 0 50 -> false
            2 * child 0 1 0
            ! mark 0 -1 0 50 -> false
            mark 0 0 0 50 -> true
            mark 0 1 0 50 -> true
            ! mark 0 2 0 50 -> false
            12 * child 0 1 0
            mark 0 13 0 50 -> true
            ! mark 0 14 0 50 -> false
            """);
        test("Promise 3, 'False: no such what' (GIFT 0, NEED 1)", """
            child 0 1 0
            ! mark 0 0 -1 50 -> false
            mark 0 0 0 50 -> true
            scaled 0 0 1 0 -> NONE
            mark 0 0 1 50 -> true
            ! mark 0 0 2 50 -> false
            scaled 0 0 1 0 -> 5
            """);
        test("Promise 3, 'False: no such number' (0 to 100)", """
            3 * child 0 1 0
            ! mark 0 0 0 -1 -> false
            mark 0 0 0 0 -> true
            mark 0 1 0 1 -> true
            mark 0 2 0 100 -> true
            ! mark 0 2 0 101 -> false
            scaled 0 0 0 0 -> 0
            scaled 0 1 0 0 -> 5
            scaled 0 2 0 0 -> 10
            """);
        test("Promise 3, 'False: 300 were told'; Terms, 'at most 300 in all'", """
            count 3 -> 0
            2 * child 0 1 0
            149 * mark 0 0 0 50
            149 * mark 3 0 1 100
            count 3 -> 298
            mark 1 0 0 0 -> true
            mark 3 1 1 99 -> true
            count 3 -> 300
            ! mark 0 0 0 50 -> false
            ! mark 3 1 1 100 -> false
            count 3 -> 300
            scaled 3 1 1 0 -> 0
            """);
    }

    private static void wishesAndPairs() {
        test("Promise 4, 'False: no such CHILD'", """
            ! wish 0 0 NONE -> false
            2 * child 0 1 0
            ! wish -1 0 1 -> false
            wish 0 0 1 -> true
            wish 1 0 0 -> true
            ! wish 2 0 1 -> false
            """);
        test("Promise 4, 'False: no such PLACE' (0 to 2)", """
            2 * child 0 1 0
            ! wish 0 -1 1 -> false
            wish 0 0 1 -> true
            wish 0 2 1 -> true
            wish 1 0 0 -> true
            ! wish 0 3 1 -> false
            ! wish 0 3 NONE -> false
            ! wish 1 -1 0 -> false
            ! wish 1 -1 NONE -> false
            of 0 4 -> 1
            of 0 5 -> NONE
            of 0 6 -> 1
            """);
        test("Promise 4, 'False: no such other one (itself)'", """
            3 * child 0 1 0
            wish 1 0 0 -> true
            ! wish 1 0 1 -> false
            wish 1 0 2 -> true
            ! wish 1 0 3 -> false
            ! wish 1 0 -2 -> false
            of 1 4 -> 2
            """);
        test("Promise 4, 'NONE: none any more'", """
            2 * child 0 1 0
            wish 0 1 1 -> true
            wish 0 1 NONE -> true
            of 0 5 -> NONE
            of 1 10 -> 0
            wish 0 1 NONE -> true
            """);
        for (String pair : new String[] {"bar", "twins"}) {
            String name = pair.equals("bar") ? "Promise 5" : "Promise 6";
            String count = pair.equals("bar") ? "9" : "8";
            test(name + ", 'False: no such two': not of one CHILD, not below 0, not above the last", """
                ! P 0 1 true -> false
                child 0 1 0
                ! P 0 1 true -> false
                ! P 0 0 true -> false
                13 * child 0 1 0
                ! P 0 0 true -> false
                ! P 13 13 true -> false
                ! P -1 0 true -> false
                ! P 0 -1 true -> false
                ! P 14 0 true -> false
                ! P 0 14 true -> false
                ! P -1 -1 false -> false
                P 0 13 true -> true
                of 0 C -> 1
                of 13 C -> 1
                """.replace("P", pair).replace("C", count));
            test(name + ", 'False: it is so': there already, or not there", """
                3 * child 0 1 0
                ! P 0 2 false -> false
                P 0 2 true -> true
                ! P 0 2 true -> false
                ! P 2 0 true -> false
                ! P 0 1 false -> false
                P 2 0 false -> true
                ! P 2 0 false -> false
                ! P 0 2 false -> false
                of 0 C -> 0
                of 2 C -> 0
                """.replace("P", pair).replace("C", count));
        }
        test("Promise 7, 'False: no such CHILD'", """
            ! not 0 0 true -> false
            2 * child 0 1 0
            ! not -1 0 true -> false
            not 0 0 true -> true
            not 1 0 true -> true
            ! not 2 0 true -> false
            """);
        test("Promise 7, 'False: no such CLASS (0 to 2)', of two CLASSES, too", """
            child 0 1 0
            ! not 0 -1 true -> false
            not 0 0 true -> true
            not 0 2 true -> true
            ! not 0 3 true -> false
            count 1 -> 2
            planned 0 0 -> 1
            """);
        test("Promise 7, 'False: it is so'", """
            2 * child 0 1 0
            ! not 0 0 false -> false
            not 0 0 true -> true
            ! not 0 0 true -> false
            ! not 1 0 false -> false
            ! not 0 1 false -> false
            not 0 0 false -> true
            ! not 0 0 false -> false
            planned 0 0 -> 0
            """);
    }

    private static void classesAndRooms() {
        test("Promise 8, 'So many CLASSES (2, 3). False: another n'", """
            3 * child 0 1 0
            count 1 -> 2
            ! classes 1 -> false
            ! classes 0 -> false
            ! classes 4 -> false
            classes 2 -> true
            classes 3 -> true
            ! classes 1 -> false
            ! classes 4 -> false
            count 1 -> 3
            classes 3 -> true
            classes 2 -> true
            count 1 -> 2
            """);
        test("Promise 8, 'False: THE LIST has one in a CLASS that would go'", """
            3 * child 0 1 0
            classes 3 -> true
            not 2 0 true
            not 2 1 true
            late 0 -> 0
            classes 2 -> true
            classes 3 -> true
            late 2 -> 2
            ! classes 2 -> false
            classes 3 -> true
            close -> 2
            classes 2 -> true
            """);
        test("Promise 8, 'False: THE LIST has one in a CLASS that would go': the first CHILD, and the last of 14", """
            14 * child 0 1 0
            classes 3 -> true
            room 0 0
            room 1 0
            late 0 -> 2
            ! classes 2 -> false
            close -> 1
            classes 2 -> true
            classes 3 -> true
            late 13 -> 2
            ! classes 2 -> false
            """);
        test("Promise 9, 'ROOM of a CLASS (0 to 2)'", """
            ! room -1 5 -> false
            room 0 5 -> true
            room 2 6 -> true
            ! room 3 5 -> false
            count 20 -> 5
            count 21 -> 14
            count 22 -> 6
            """);
        test("Promise 9, 'False: other numbers'; Terms, 'ROOM 0 to 14 (14 at first)'", """
            count 20 -> 14
            count 21 -> 14
            count 22 -> 14
            ! room 0 -1 -> false
            room 0 0 -> true
            ! room 0 15 -> false
            count 20 -> 0
            room 0 14 -> true
            ! room 0 15 -> false
            count 20 -> 14
            """);
    }

    private static String feed(int times) {
        return times + " * feed" + BLANK.repeat(5);
    }

    private static void tape() {
        test("Promise 10, 'Twenty bytes come behind the TAPE: how many it has'", """
            feed 0 0 0 0 0 -> 20
            feed 0 0 0 0 0 -> 40
            end 21 -> 21
            feed 0 0 0 0 0 -> 41
            """);
        test("Promise 10, 'NONE if these would be more than 400': 400 are taken, at 400 no more", feed(19), """
            feed 0x20202020 0x20202020 0x20202020 0x20202020 0x2020203b -> 400
            ! feed 0 0 0 0 0 -> NONE
            ! feed MIN MAX -1 0 1 -> NONE
            count 4 -> 400
            rule -> -2
            place -> 399
            """);
        test("Promise 10, 'NONE if these would be more than 400': 380 bytes leave room, 381 don't", feed(20), """
            end 399 -> 399
            ! feed 0 0 0 0 0 -> NONE
            end 381 -> 381
            ! feed 0 0 0 0 0 -> NONE
            end 380 -> 380
            feed 0x20202020 0x20202020 0x20202020 0x20202020 0x20202020 -> 400
            rule -> 0
            """);
        for (int at = 0; at < 20; at++) {
            String words = "";
            for (int w = 0; w < 5; w++) words += String.format(" 0x%08x", w == at / 4 ? 0x20202020 ^ 0x03 << 24 - at % 4 * 8 : 0x20202020);
            test("Promise 10, 'of each number the highest first': byte " + at, feed(2), "feed" + words + " -> 60", "rule -> -2", "place -> " + (40 + at));
        }
        test("Promise 10, 'of each number the highest first': the smallest and the greatest int", """
            feed 0x20202020 0x20202020 0x20202020 0x20202020 MIN -> 20
            rule -> -2
            place -> 16
            feed 0x20202020 0x20202020 0x20202020 MAX MIN -> 20
            rule -> -2
            place -> 12
            feed 0x20202020 0x20202020 0x20202020 0x20202020 -1 -> 20
            rule -> -2
            place -> 16
            """);
        test("Promise 11, 'NONE if it has less, or n is below 0': an empty TAPE", """
            ! end -1 -> NONE
            ! end 1 -> NONE
            end 0 -> 0
            """);
        // The tape ends with "even:7;", so that its last bytes are told by the rule that it is.
        test("Promise 11, 'NONE if it has less, or n is below 0': 20 bytes", """
            child 0 1 0
            feed 0x6576656e 0x3a313b20 0x20202020 0x20657665 0x6e3a373b -> 20
            ! end 21 -> NONE
            ! end -1 -> NONE
            end 20 -> 20
            end 19 -> 19
            ! end 20 -> NONE
            end 7 -> 7
            count 4 -> 7
            rule -> 1
            """);
        test("Promise 11, 'NONE if it has less, or n is below 0': 400 bytes", feed(20), """
            ! end 401 -> NONE
            end 400 -> 400
            end 0 -> 0
            ! end 1 -> NONE
            """);
    }

    private static void rules() {
        test("Promise 12, 'how many STATEMENTS': 0, of a TAPE without bytes and of one of blanks", """
            rule -> 0
            rule 'even:1;' -> 1
            rule '' -> 0
            count 7 -> 0
            rule '{400* }' -> 0
            """);
        test("Promise 12, 'how many STATEMENTS': 16 at most", """
            rule '{15*even:1;}' -> 15
            rule '{16*even:1;}' -> 16
            ! rule '{17*even:1;}' -> -4 at 112
            count 7 -> 16
            """);
        test("Promise 12, 'with a FAULT 1 less than minus its kind (-2 to -4)'", """
            ! rule 'even' -> -2 at 4
            ! rule 'even tag 8:1;' -> -3 at 9
            ! rule '{17*even:1;}' -> -4 at 112
            """);
        test("Promise 12, 'The TAPE (empty then)': with a FAULT and without", """
            rule 'even:1;' -> 1
            count 4 -> 0
            ! end 1 -> NONE
            ! rule 'even:1' -> -2 at 6
            count 4 -> 0
            ! end 1 -> NONE
            feed 0x6576656e 0x3a313b20 0x20202020 0x20202020 0x20202020 -> 20
            rule -> 1
            """);
        test("Promise 12, Terms, 'A text with a FAULT changes nothing': the RULE is what it was", """
            3 * child 0 1 128
            rule 'even tag 7:3;most 2 sex=0;' -> 2
            keep -> 3
            ! rule 'even:1;friend:1;sum month:1;alone sex=0:9' -> -2 at 41
            ! rule 'apart sex=0 from sex=0;even tag 9:1;' -> -3 at 32
            ! rule '{16*least 9 sex=0;}twins joined;' -> -4 at 224
            count 7 -> 2
            harm 0 -> 3
            harm 2 -> NONE
            """);
        test("Promise 13, 'NONE without one': ahead of any rule(), and behind one without a FAULT", """
            place -> NONE
            rule 'even:1' -> -2 at 6
            place -> 6
            rule 'even:1;' -> 1
            place -> NONE
            """);
        test("Promise 13, 'The place of the FAULT of the latest rule()': behind other calls, too", """
            rule 'x' -> -2 at 0
            place -> 0
            feed 0 0 0 0 0 -> 20
            place -> 0
            rule 'even:1;even tag 9:1;' -> -3 at 16
            place -> 16
            end 0 -> 0
            day 1 -> 1
            place -> 16
            """);
        test("Promise 14, 'NONE: no such ones': STATEMENTS", """
            child 0 1 0
            ! holds 0 0 0 0 -> NONE
            rule 'even sex=0:1;even sex=1:1;' -> 2
            ! holds -1 0 0 0 -> NONE
            holds 0 0 0 0 -> 1
            holds 1 0 0 0 -> 0
            ! holds 2 0 0 0 -> NONE
            rule '{15*even sex=1:1;}even sex=0:1;' -> 16
            holds 14 0 0 0 -> 0
            holds 15 0 0 0 -> 1
            ! holds 16 0 0 0 -> NONE
            """);
        test("Promise 14, 'which 0 the first ones, 1 behind from'", """
            child 0 1 0
            rule 'apart sex=0 from sex=1;' -> 1
            ! holds 0 -1 0 0 -> NONE
            holds 0 0 0 0 -> 1
            holds 0 1 0 0 -> 0
            ! holds 0 2 0 0 -> NONE
            """);
        test("Promise 14, 'NONE: no such ones': CHILDREN", """
            rule 'even sex=0:1;' -> 1
            ! holds 0 0 0 0 -> NONE
            2 * child 0 1 0
            ! holds 0 0 -1 0 -> NONE
            holds 0 0 0 0 -> 1
            holds 0 0 1 0 -> 1
            ! holds 0 0 2 0 -> NONE
            """);
        test("Promise 14, 'as known on a DAY (0 to the one at hand)'", """
            child 0 1 0
            rule 'even sex=0:1;' -> 1
            ! holds 0 0 0 -1 -> NONE
            holds 0 0 0 0 -> 1
            ! holds 0 0 0 1 -> NONE
            day 2 -> 2
            ! holds 0 0 0 -1 -> NONE
            holds 0 0 0 0 -> 1
            holds 0 0 0 2 -> 1
            ! holds 0 0 0 3 -> NONE
            """);
        test("Promise 14, 'NONE: (it has none such)': kinds without TERMS, and without such behind from", """
            child 0 1 0
            rule 'even sex=0:1;sum sex:1;friend:1;alone sex=0:1;regret:1;apart sex=0 from sex=0;most 1 sex=0;least 1 sex=0;twins free;' -> 9
            holds 0 0 0 0 -> 1
            ! holds 0 1 0 0 -> NONE
            ! holds 1 0 0 0 -> NONE
            ! holds 1 1 0 0 -> NONE
            ! holds 2 0 0 0 -> NONE
            ! holds 2 1 0 0 -> NONE
            holds 3 0 0 0 -> 1
            ! holds 3 1 0 0 -> NONE
            ! holds 4 0 0 0 -> NONE
            ! holds 4 1 0 0 -> NONE
            holds 5 0 0 0 -> 1
            holds 5 1 0 0 -> 1
            holds 6 0 0 0 -> 1
            ! holds 6 1 0 0 -> NONE
            holds 7 0 0 0 -> 1
            ! holds 7 1 0 0 -> NONE
            ! holds 8 0 0 0 -> NONE
            ! holds 8 1 0 0 -> NONE
            """);
        test("Promise 14, Terms, '(without TERMS, in even: for all)'", """
            child 0 1 0
            child 1 12 255
            rule 'even:1;even sex=0:1;' -> 2
            holds 0 0 0 0 -> 1
            holds 0 0 1 0 -> 1
            ! holds 0 1 0 0 -> NONE
            ! holds 0 0 2 0 -> NONE
            holds 1 0 1 0 -> 0
            """);
        test("Promise 14, what was told by the end of a DAY is known on it, what came behind isn't", """
            2 * child 0 1 0
            rule 'even gift=10:1;even gift=5:1;' -> 2
            day 1 -> 1
            mark 0 0 0 2 -> true
            mark 0 1 0 1 -> true
            holds 0 0 0 1 -> 1
            holds 0 0 0 0 -> 0
            holds 1 0 0 0 -> 1
            day 1 -> 2
            holds 0 0 0 0 -> 0
            holds 0 0 0 1 -> 1
            holds 0 0 0 2 -> 1
            """);
    }

    private static void days() {
        test("Promise 15, 'So many DAYS (0 to 1000) go by. NONE: another n'", """
            ! day -1 -> NONE
            day 0 -> 0
            day 1 -> 1
            day 1000 -> 1001
            ! day 1001 -> NONE
            day 0 -> 1001
            """);
        test("Promise 15, 'NONE: it would be above 100000'", """
            2 * child 0 1 0
            99 * day 1000
            day 999 -> 99999
            ! day 2 -> NONE
            ! day 1000 -> NONE
            day 1 -> 100000
            ! day 1 -> NONE
            day 0 -> 100000
            child 1 2 3 -> 2
            of 2 2 -> 100000
            mark 0 0 0 50 -> true
            scaled 0 0 0 100000 -> 5
            scaled 0 0 0 99999 -> NONE
            planned 99999 2 -> NONE
            planned 100000 2 -> 0
            was 0 100000 -> NONE
            ! holds 0 0 0 100001 -> NONE
            """);
        test("Promise 15, no DAY goes by: none ends, and nothing is written", """
            child 0 1 0
            late 0 -> 0
            day 0 -> 0
            count 9 -> 0
            day 1 -> 1
            count 9 -> 1
            """);
    }

    private static void plans() {
        test("Promise 16, 'NONE: no such DAY' (0 to the one at hand)", """
            child 0 1 0
            plan -1 -> NONE
            plan 0 -> 0
            plan 1 -> NONE
            day 2 -> 2
            plan -1 -> NONE
            plan 0 -> 0
            plan 2 -> 0
            plan 3 -> NONE
            """);
        test("Promise 16, 'NONE: nobody came by then'", """
            plan 0 -> NONE
            day 3 -> 3
            plan 3 -> NONE
            child 0 1 0
            plan 2 -> NONE
            plan 3 -> 0
            rule 'least 9 sex=0;'
            plan 2 -> NONE
            plan 3 -> -2
            """);
        test("Promise 16, '-2: none is ALLOWED'", """
            2 * child 0 1 0
            room 0 1
            room 1 1
            plan 0 -> 0
            room 1 0
            plan 0 -> -2
            planned 0 0 -> NONE
            ! keep -> -2
            """);
        test("Promise 16, '-3: more than nine'; Terms, '(9 at most)'", """
            8 * child 0 1 0
            day 1 -> 1
            child 0 1 0
            plan 1 -> 0
            planned 1 8 -> 0
            day 1 -> 2
            child 0 1 0
            plan 0 -> 0
            plan 1 -> 0
            plan 2 -> -3
            planned 1 8 -> 0
            planned 2 8 -> NONE
            ! keep -> -3
            """);
        test("Promise 16, '-3: more than nine', of 14, and where none would be ALLOWED", """
            14 * child 0 1 0
            room 0 0
            room 1 0
            plan 0 -> -3
            planned 0 0 -> NONE
            ! keep -> -3
            """);
        test("Promise 16, 'NONE: no such DAY', of more than nine, too", """
            10 * child 0 1 0
            plan -1 -> NONE
            plan 0 -> -3
            plan 1 -> NONE
            plan MAX -> NONE
            day 1 -> 1
            plan 1 -> -3
            plan 2 -> NONE
            """);
        test("Promise 17, 'NONE: no such CHILD'", """
            planned 0 0 -> NONE
            3 * child 0 1 0
            planned 0 -1 -> NONE
            planned 0 0 -> 0
            planned 0 2 -> 0
            planned 0 3 -> NONE
            """);
        test("Promise 17, 'NONE: or it isn't in it'; Terms, 'of all who came by then'", """
            child 0 1 0
            day 2 -> 2
            child 0 1 0
            planned 0 0 -> 0
            planned 0 1 -> NONE
            planned 1 1 -> NONE
            planned 2 1 -> 0
            """);
        test("Promise 17, 'NONE: plan() tells no HARM (NONE, -2, -3)'", """
            child 0 1 0
            planned -1 0 -> NONE
            planned 0 0 -> 0
            planned 1 0 -> NONE
            rule 'least 1 sex=1;' -> 1
            planned 0 0 -> NONE
            rule '' -> 0
            8 * child 0 1 0
            planned 0 0 -> 0
            child 0 1 0
            planned 0 0 -> NONE
            """);
        test("Promise 18, 'NONE, -2, -3 as plan()': THE LIST is what it was", """
            ! keep -> NONE
            2 * child 0 1 0
            rule 'even:4;'
            keep -> 0
            classOf 1 -> 1
            room 0 0
            room 1 1
            ! keep -> -2
            classOf 0 -> 0
            room 0 14
            8 * child 0 1 0
            ! keep -> -3
            count 5 -> 2
            """);
        test("Promise 18, 'THE LIST is the best PLAN as known on the DAY at hand': not on one ahead", """
            2 * child 0 1 0
            rule 'sum gift:1;'
            keep -> 0
            classOf 1 -> 1
            day 1 -> 1
            child 0 1 0
            mark 0 0 0 9
            mark 0 1 0 1
            mark 0 2 0 5
            keep -> 5
            classOf 0 -> 0
            classOf 1 -> 0
            classOf 2 -> 1
            plan 0 -> 0
            planned 0 1 -> 1
            """);
        test("Promise 18, 'THE LIST is the best PLAN as known on the DAY at hand': of nine", """
            9 * child 0 1 0
            rule 'even:4;'
            keep -> 4
            count 10 -> 5
            count 11 -> 4
            """);
    }

    private static void byHand() {
        test("Promise 19, 'NONE: no CHILDREN'", """
            ! make -> NONE
            child 0 1 0
            make -> 0
            """);
        test("Promise 19, '-2: there is none': no CLASS for the last CHILD", """
            3 * child 0 1 0
            room 0 2
            room 1 0
            ! make -> -2
            room 1 1
            make -> 0
            classOf 2 -> 1
            room 1 0
            ! make -> -2
            classOf 2 -> 1
            """);
        test("Promise 19, '-4: its LACK isn't 0 (THE LIST is that all the same)'", """
            3 * child 0 1 0
            rule 'least 2 sex=0;'
            make -> -4
            count 5 -> 3
            allowed 1 -> 1
            child 0 1 0
            make -> 0
            allowed 1 -> 0
            """);
        test("Promise 19, of all who came: 14 are not too many", """
            14 * child 0 1 0
            rule 'even:1;'
            make -> 0
            count 10 -> 7
            room 0 6
            make -> 2
            count 11 -> 8
            room 1 7
            ! make -> -2
            """);
        test("Promise 20, 'NONE ahead of any that was neither NONE nor -2'", """
            steps -> NONE
            ! make -> NONE
            steps -> NONE
            child 0 1 0
            room 0 0
            room 1 0
            ! make -> -2
            steps -> NONE
            room 0 1
            make -> 0
            steps -> 0
            """);
        test("Promise 20, 'How many STEPS the latest make() took': -4 has taken some, too", """
            3 * child 0 1 0
            rule 'least 2 sex=0;'
            make -> -4
            steps -> 1
            rule ''
            make -> 0
            steps -> 0
            """);
    }

    private static void lateAndChange() {
        test("Promise 21, 'NONE: no such CHILD'", """
            ! late 0 -> NONE
            2 * child 0 1 0
            ! late -1 -> NONE
            late 0 -> 0
            late 1 -> 0
            ! late 2 -> NONE
            """);
        test("Promise 21, 'NONE: it is on THE LIST'", """
            2 * child 0 1 0
            late 1 -> 0
            ! late 1 -> NONE
            count 5 -> 1
            """);
        test("Promise 21, '-2: none is ALLOWED': ROOM", """
            2 * child 0 1 0
            room 0 1
            room 1 0
            late 0 -> 0
            ! late 1 -> -2
            classOf 1 -> NONE
            room 1 1
            late 1 -> 1
            """);
        test("Promise 21, '-2: none is ALLOWED': LACK", """
            3 * child 0 1 0
            rule 'least 1 sex=0;'
            ! late 0 -> -2
            room 1 0
            ! late 0 -> -2
            rule ''
            late 0 -> 0
            room 1 14
            rule 'least 1 sex=0;'
            late 1 -> 1
            """);
        test("Promise 21, more than nine are not too many: 14", "14 * child 0 1 0",
            "late 0 -> 0\nlate 1 -> 0\nlate 2 -> 0\nlate 3 -> 0\nlate 4 -> 0\nlate 5 -> 0\nlate 6 -> 0\nlate 7 -> 0\nlate 8 -> 0\nlate 9 -> 0",
            "late 10 -> 0\nlate 11 -> 0\nlate 12 -> 0\nroom 0 13\nlate 13 -> 1\ncount 5 -> 14");
        test("Promise 22, 'NONE: THE LIST is empty'", """
            ! change -> NONE
            2 * child 0 1 0
            ! change -> NONE
            late 1 -> 0
            change -> 0
            close -> 1
            ! change -> NONE
            """);
        test("Promise 22, '-2: none is ALLOWED'", """
            2 * child 0 1 0
            make -> 0
            bar 0 1 true
            room 1 0
            ! change -> -2
            classOf 1 -> 0
            room 1 1
            change -> 1
            classOf 1 -> 1
            """);
        test("Promise 22, '-3: more than nine'; Terms, '(9 at most on it)': nine on it of fourteen who came", """
            14 * child 0 1 0
            late 0
            late 1
            late 2
            late 3
            late 4
            late 5
            late 6
            late 7
            late 13
            room 0 8
            change -> 1
            classOf 13 -> 1
            late 8 -> 1
            ! change -> -3
            room 0 0
            ! change -> -3
            """);
    }

    private static void askList() {
        test("Promise 23, 'The CLASS of a CHILD on THE LIST; NONE'", """
            classOf 0 -> NONE
            2 * child 0 1 0
            classOf -1 -> NONE
            classOf 0 -> NONE
            late 1 -> 0
            classOf 0 -> NONE
            classOf 1 -> 0
            classOf 2 -> NONE
            """);
        test("Promise 24, 'NONE: no such ones': CHILDREN", """
            was 0 0 -> NONE
            2 * child 0 1 0
            late 0
            late 1
            was -1 0 -> NONE
            was 0 0 -> 0
            was 1 0 -> 0
            was 2 0 -> NONE
            day 1 -> 1
            was -1 0 -> NONE
            was 0 0 -> 0
            was 1 0 -> 0
            was 2 0 -> NONE
            """);
        test("Promise 24, 'NONE: no such ones': DAYS", """
            child 0 1 0
            late 0 -> 0
            was 0 -1 -> NONE
            was 0 0 -> 0
            was 0 1 -> NONE
            day 2 -> 2
            was 0 -1 -> NONE
            was 0 0 -> 0
            was 0 1 -> 0
            was 0 2 -> 0
            was 0 3 -> NONE
            """);
        test("Promise 24, '(the DAY at hand: as it is now)'", """
            child 0 1 0
            day 1 -> 1
            late 0 -> 0
            was 0 0 -> NONE
            was 0 1 -> 0
            close -> 1
            was 0 1 -> NONE
            day 1 -> 2
            was 0 1 -> NONE
            """);
        test("Promise 25, 'NONE: it isn't on it'", """
            served 0 -> NONE
            2 * child 0 1 0
            wish 0 0 1
            late 1 -> 0
            served -1 -> NONE
            served 0 -> NONE
            served 1 -> 3
            served 2 -> NONE
            late 0 -> 0
            served 0 -> 0
            """);
        test("Promise 25, 'The PLACE by which a CHILD on THE LIST is SERVED; 3: it is LEFT'", """
            3 * child 0 1 0
            make -> 0
            served 0 -> 3
            wish 0 2 1
            served 0 -> 2
            wish 0 1 1
            served 0 -> 1
            wish 0 0 1
            served 0 -> 0
            bar 0 1 true
            change -> 1
            served 0 -> 3
            """);
        test("Promise 26, 'NONE: it is empty'", """
            child 0 1 0
            rule 'friend:1;'
            harm NONE -> NONE
            harm 0 -> NONE
            make -> 1
            harm NONE -> 1
            harm 0 -> 1
            close -> 1
            harm NONE -> NONE
            harm 0 -> NONE
            """);
        test("Promise 26, 'NONE: there is none such'", """
            child 0 1 0
            make -> 0
            harm -2 -> NONE
            harm NONE -> 0
            harm 0 -> NONE
            rule '{15*friend:1;}friend:2;' -> 16
            harm -2 -> NONE
            harm NONE -> 17
            harm 0 -> 1
            harm 14 -> 1
            harm 15 -> 2
            harm 16 -> NONE
            """);
        test("Promise 27, 'NONE: it is empty, another what'", """
            child 0 1 0
            allowed 0 -> NONE
            allowed 1 -> NONE
            make -> 0
            allowed -1 -> NONE
            allowed 0 -> 1
            allowed 1 -> 0
            allowed 2 -> NONE
            close -> 1
            allowed 0 -> NONE
            allowed 1 -> NONE
            """);
        test("Promise 27, '1 THE LIST is ALLOWED, 0 not; what 1: LACK'", """
            2 * child 0 1 0
            make -> 0
            rule 'least 2 sex=0;'
            allowed 0 -> 0
            allowed 1 -> 2
            rule 'least 2 sex=0;least 1 sex=0;'
            allowed 1 -> 3
            rule 'least 0 sex=0;'
            allowed 0 -> 1
            allowed 1 -> 0
            """);
    }

    private static void swapsAndLies() {
        String fourOfTwo = """
            4 * child 0 1 0
            not 0 1 true
            not 1 1 true
            not 2 0 true
            not 3 0 true
            keep -> 0
            not 0 1 false
            not 1 1 false
            not 2 0 false
            not 3 0 false
            """;
        test("Promise 28, 'How many SWAPS BETTER both': none on an empty LIST", """
            swaps -> 0
            2 * child 0 1 0
            wish 0 0 1
            wish 1 0 0
            swaps -> 0
            """);
        test("Promise 28, 'How many SWAPS BETTER both': of one CLASS there is none", """
            2 * child 0 1 0
            wish 0 0 1
            wish 1 0 0
            make -> 0
            swaps -> 0
            """);
        test("Promise 29, 'Of the i-th of these 0 the lesser CHILD, 1 the other one; NONE'", fourOfTwo, """
            swap 0 0 -> NONE
            wish 0 0 2
            wish 3 0 1
            swaps -> 1
            swap -1 0 -> NONE
            swap 0 -1 -> NONE
            swap 0 0 -> 0
            swap 0 1 -> 3
            swap 0 2 -> NONE
            swap 1 0 -> NONE
            swap 1 1 -> NONE
            wish 1 0 3
            wish 2 0 0
            swaps -> 2
            swap 1 0 -> 1
            swap 1 1 -> 2
            swap 2 0 -> NONE
            """);
        test("Promise 30, 'NoSuchElementException: no such CHILD'", """
            ! lie 0 0 -> throws
            2 * child 0 1 0
            wish 0 0 1
            wish 1 0 0
            ! lie -1 0 -> throws
            lie 0 0 -> 0
            lie 1 0 -> 0
            ! lie 2 0 -> throws
            """);
        test("Promise 30, 'NoSuchElementException: no such PLACE'", """
            2 * child 0 1 0
            wish 0 0 1
            wish 0 1 1
            wish 0 2 1
            wish 1 0 0
            wish 1 2 0
            ! lie 0 -1 -> throws
            lie 0 0 -> 0
            lie 0 2 -> 0
            ! lie 0 3 -> throws
            ! lie 1 -1 -> throws
            ! lie 1 3 -> throws
            """);
        test("Promise 30, 'NoSuchElementException: the WISH is none'", """
            2 * child 0 1 0
            ! lie 0 0 -> throws
            wish 0 1 1
            ! lie 0 0 -> throws
            lie 0 1 -> 1
            ! lie 0 2 -> throws
            wish 0 1 NONE
            ! lie 0 1 -> throws
            """);
        test("Promise 30, 'NoSuchElementException: no PLAN is ALLOWED then': by that WISH alone", """
            2 * child 0 1 0
            wish 0 0 1
            wish 0 1 1
            rule 'least 1 wishes=1;'
            plan 0 -> -2
            ! lie 0 0 -> throws
            rule 'most 0 wishes=2;'
            plan 0 -> -2
            lie 0 0 -> 0
            rule 'most 0 wishes=1;'
            plan 0 -> 0
            ! lie 0 0 -> throws
            ! lie 0 1 -> throws
            of 0 4 -> 1
            of 0 5 -> 1
            """);
        test("Promise 30, 'NoSuchElementException: more than nine CHILDREN'", """
            9 * child 0 1 0
            wish 0 0 8
            lie 0 0 -> 0
            child 0 1 0
            ! lie 0 0 -> throws
            4 * child 0 1 0
            ! lie 0 0 -> throws
            """);
        test("Promise 30, '3: LEFT'", """
            2 * child 0 1 0
            wish 0 0 1
            bar 0 1 true
            lie 0 0 -> 3
            """);
    }

    private static void ringsAndHelpers() {
        test("Promise 31, 'The i-th that is LONELY; NONE'", """
            lonely 0 -> NONE
            3 * child 0 1 0
            lonely -1 -> NONE
            lonely 0 -> 0
            lonely 2 -> 2
            lonely 3 -> NONE
            wish 0 2 1
            lonely 0 -> 0
            lonely 1 -> 2
            lonely 2 -> NONE
            wish 1 0 2
            wish 2 1 0
            lonely 0 -> NONE
            """);
        test("Promise 31, all of 14 are LONELY", """
            14 * child 0 1 0
            lonely 13 -> 13
            lonely 14 -> NONE
            """);
        test("Promise 32, 'NONE: no such one'", """
            ring 0 -> NONE
            2 * child 0 1 0
            ring -1 -> NONE
            ring 0 -> 0
            ring 1 -> 1
            ring 2 -> NONE
            """);
        String chain = "14 * child 0 1 0\n";
        for (int c = 0; c < 13; c++) chain += "wish " + c + " " + c % 3 + " " + (c + 1) + "\n";
        test("Promise 32, Terms, 'CHILDREN each of whom is led to each other by WISHES, one behind the other': all of 14", chain, """
            ring 13 -> 13
            ring 0 -> 0
            wish 13 0 0
            ring 13 -> 0
            ring 7 -> 0
            wish 13 0 1
            ring 0 -> 0
            ring 1 -> 1
            ring 13 -> 1
            """);
        test("Promise 33, 'NONE: other HOURS' (1 to 60)", """
            ! helper -1 -> NONE
            ! helper 0 -> NONE
            helper 1 -> 0
            helper 60 -> 1
            ! helper 61 -> NONE
            count 8 -> 2
            """);
        test("Promise 33, 'NONE: six are there'; Terms, 'HELPERS, at most 6, numbered as they come'", """
            count 8 -> 0
            5 * helper 1
            helper 60 -> 5
            ! helper 1 -> NONE
            ! helper 60 -> NONE
            count 8 -> 6
            """);
        test("Promise 34, 'NONE: THE LIST is empty'", """
            2 * child 0 1 0
            helper 3
            help NONE -> NONE
            help 0 -> NONE
            late 0 -> 0
            help NONE -> 2
            help 0 -> 0
            close
            help NONE -> NONE
            help 0 -> NONE
            """);
        test("Promise 34, 'NONE: no such HELPER'", """
            child 0 1 0
            make -> 0
            help -2 -> NONE
            help NONE -> 5
            help 0 -> NONE
            6 * helper 1
            help -2 -> NONE
            help NONE -> 0
            help 0 -> 0
            help 5 -> 0
            help 6 -> NONE
            """);
    }

    private static void years() {
        test("Promise 35, 'False: it isn't on THE LIST'", """
            ! word 0 5 0 -> false
            3 * child 0 1 0
            ! word 0 5 0 -> false
            late 0
            late 1
            ! word -1 5 0 -> false
            word 0 5 0 -> true
            word 1 5 0 -> true
            ! word 2 5 0 -> false
            ! word 3 5 0 -> false
            close -> 2
            ! word 0 5 0 -> false
            """);
        test("Promise 35, 'False: other numbers': how it went (0 to 10)", """
            child 0 1 0
            late 0
            ! word 0 -1 0 -> false
            of 0 11 -> NONE
            word 0 0 0 -> true
            of 0 11 -> 0
            word 0 10 0 -> true
            ! word 0 11 0 -> false
            of 0 11 -> 10
            """);
        test("Promise 35, 'False: other numbers': DOUBT (0 to 5)", """
            child 0 1 0
            late 0
            ! word 0 5 -1 -> false
            of 0 12 -> NONE
            word 0 5 0 -> true
            of 0 12 -> 0
            word 0 5 5 -> true
            ! word 0 5 6 -> false
            of 0 12 -> 5
            """);
        test("Promise 36, 'NONE: THE LIST is empty'", """
            ! close -> NONE
            2 * child 0 1 0
            ! close -> NONE
            count 6 -> 0
            late 0
            close -> 1
            ! close -> NONE
            count 6 -> 1
            """);
        test("Promise 36, 'how many were LEFT': none and all", """
            2 * child 0 1 0
            make
            close -> 2
            wish 0 0 1
            wish 1 0 0
            make
            close -> 0
            count 6 -> 2
            """);
        test("Promise 37, 'NONE: no such two'", """
            regret 0 1 -> NONE
            child 0 1 0
            regret 0 0 -> NONE
            regret 0 1 -> NONE
            13 * child 0 1 0
            regret 0 0 -> NONE
            regret 13 13 -> NONE
            regret -1 0 -> NONE
            regret 0 -1 -> NONE
            regret 0 13 -> 0
            regret 13 0 -> 0
            regret 0 14 -> NONE
            regret 14 0 -> NONE
            """);
    }

    private static void scaledOfCount() {
        test("Promise 38, 'NONE: no such ones': TEACHERS, CHILDREN, what, DAYS", """
            scaled 0 0 0 0 -> NONE
            2 * child 0 1 0
            mark 0 0 0 50
            mark 3 1 1 50
            scaled -2 0 0 0 -> NONE
            scaled NONE 0 0 0 -> 5
            scaled 0 0 0 0 -> 5
            scaled 3 1 1 0 -> 5
            scaled 4 1 1 0 -> NONE
            scaled 0 -1 0 0 -> NONE
            scaled 0 2 0 0 -> NONE
            scaled NONE 2 0 0 -> NONE
            scaled 0 0 -1 0 -> NONE
            scaled 3 1 2 0 -> NONE
            scaled 0 0 0 -1 -> NONE
            scaled 0 0 0 1 -> NONE
            day 1 -> 1
            scaled 0 0 0 1 -> 5
            scaled 0 0 0 2 -> NONE
            """);
        test("Promise 38, 'NONE: none was told': by that TEACHER, of that sort, by that DAY, by any TEACHER", """
            2 * child 0 1 0
            scaled 0 0 0 0 -> NONE
            scaled NONE 0 0 0 -> NONE
            day 1 -> 1
            mark 1 0 1 50
            scaled 1 0 1 1 -> 5
            scaled NONE 0 1 1 -> 5
            scaled 1 0 1 0 -> NONE
            scaled NONE 0 1 0 -> NONE
            scaled 0 0 1 1 -> NONE
            scaled 1 0 0 1 -> NONE
            scaled NONE 0 0 1 -> NONE
            scaled 1 1 1 1 -> NONE
            scaled NONE 1 1 1 -> NONE
            """);
        test("Promise 39, 'NoSuchElementException: no such CHILD'", """
            ! of 0 0 -> throws
            2 * child 0 1 0
            ! of -1 0 -> throws
            of 0 0 -> 0
            of 1 0 -> 0
            ! of 2 0 -> throws
            12 * child 0 1 0
            of 13 0 -> 0
            ! of 14 0 -> throws
            """);
        test("Promise 39, 'NoSuchElementException: no such what' (0 to 12)", """
            child 1 2 3
            ! of 0 -1 -> throws
            of 0 0 -> 1
            of 0 12 -> NONE
            ! of 0 13 -> throws
            """);
        test("Promise 39, what there is of a CHILD of whom nothing was told", """
            child 1 2 3
            of 0 0 -> 1
            of 0 1 -> 2
            of 0 2 -> 0
            of 0 3 -> 0
            of 0 4 -> NONE
            of 0 5 -> NONE
            of 0 6 -> NONE
            of 0 7 -> 3
            of 0 8 -> 0
            of 0 9 -> 0
            of 0 10 -> 0
            of 0 11 -> NONE
            of 0 12 -> NONE
            """);
        String all = "";
        for (int c = 1; c < 14; c++) all += "twins 0 " + c + " true\nbar " + c + " 0 true\n" + "wish " + c + " 0 0\nwish " + c + " 1 0\nwish " + c + " 2 0\n";
        test("Promise 39, '8 TWINS and 9 BARS it has, 10 how many WISHES of others name it': with all of 14", "14 * child 0 1 0", all, """
            of 0 8 -> 13
            of 0 9 -> 13
            of 0 10 -> 39
            of 13 8 -> 1
            of 13 9 -> 1
            of 13 10 -> 0
            """);
        test("Promise 40, 'NONE for others'", """
            child 0 1 0
            count -1 -> NONE
            count 0 -> 1
            count 9 -> 0
            count 10 -> 0
            count 13 -> NONE
            count 14 -> NONE
            count 19 -> NONE
            count 20 -> 14
            count 23 -> NONE
            count 24 -> NONE
            """);
        test("Promise 40, '10 and c those on THE LIST in CLASS c (of those there are)'", """
            3 * child 0 1 0
            count 11 -> 0
            count 12 -> NONE
            classes 3
            count 12 -> 0
            count 13 -> NONE
            rule 'even:1;'
            keep
            count 10 -> 1
            count 11 -> 1
            count 12 -> 1
            """);
        test("Promise 40, '20 and c ROOM of CLASS c'", """
            room 0 1
            room 1 2
            count 19 -> NONE
            count 20 -> 1
            count 21 -> 2
            classes 3
            room 2 3
            count 22 -> 3
            count 23 -> NONE
            """);
        test("Promise 40, '6 YEARS closed', '3 marks told', '8 HELPERS', '5 those on THE LIST': a refused call isn't counted", """
            2 * child 0 1 0
            close -> NONE
            mark 0 0 0 101 -> false
            helper 61 -> NONE
            late 2 -> NONE
            count 3 -> 0
            count 5 -> 0
            count 6 -> 0
            count 8 -> 0
            """);
    }
}
