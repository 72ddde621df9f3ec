/**
 * For each sentence of Terms that names a boundary case a test of its own: the last that holds and the first that
 * doesn't, the empty and the full, and each refused call (the lines with !, see Script).
 */
public final class BoundaryTermsTest {
    public static void main(String[] args) {
        childrenAndClasses();
        marks();
        wishesAndPairs();
        ruleLength();
        ruleTokens();
        ruleNumbers();
        ruleFaults();
        ruleTerms();
        soundness();
        lastClass();
        harm();
        bestPlan();
        byHand();
        listPlaceAndChange();
        swapsLiesRings();
        helpers();
        wordsAndYears();
        book();
        Script.end("terms at their boundaries");
    }

    private static void test(String sentence, String... lines) {
        Script.test(sentence, lines);
    }

    private static void childrenAndClasses() {
        test("Terms, 'DAYS are numbered from 0 on'", """
            count 2 -> 0
            child 0 1 0 -> 0
            of 0 2 -> 0
            day 1 -> 1
            count 2 -> 1
            """);
        test("Terms, 'CHILDREN: the DAY on which they came': at its beginning, and as it ends", """
            day 7 -> 7
            child 0 1 0 -> 0
            day 1 -> 8
            child 0 1 0 -> 1
            of 0 2 -> 7
            of 1 2 -> 8
            planned 6 0 -> NONE
            planned 7 0 -> 0
            planned 7 1 -> NONE
            planned 8 1 -> 0
            """);
        for (int tag = 0; tag < 8; tag++) {
            test("Terms, 'TAGS (bits of TAGS 0 to 7)': TAG " + tag + " is its bit and no other", "child 0 1 " + (1 << tag), "child 0 1 " + (255 - (1 << tag)),
                "rule 'even tag " + tag + ":1;' -> 1", "holds 0 0 0 0 -> 1", "holds 0 0 1 0 -> 0");
        }
        test("Terms, 'CLASSES 0 and 1, or 0, 1, 2 (2 of them at first)'", """
            3 * child 0 1 0
            rule 'even:1;'
            keep -> 1
            classOf 2 -> 1
            classes 3 -> true
            keep -> 0
            classOf 1 -> 1
            classOf 2 -> 2
            """);
        test("Terms, 'each with ROOM 0': nobody is in it", """
            2 * child 0 1 0
            room 0 0
            plan 0 -> 0
            planned 0 0 -> 1
            planned 0 1 -> 1
            room 1 0
            plan 0 -> -2
            ! make -> -2
            ! late 0 -> -2
            """);
        test("Terms, 'ROOM 14 (14 at first)': all are in it", """
            14 * child 0 1 0
            make -> 0
            count 10 -> 14
            room 0 13
            allowed 0 -> 0
            make -> 0
            count 10 -> 13
            count 11 -> 1
            room 0 14
            make -> 0
            count 10 -> 14
            """);
    }

    private static void marks() {
        test("Terms, 'each on the DAY at hand', 'told last by the end of it'", """
            3 * child 0 1 0
            mark 0 0 0 50
            mark 0 1 0 40
            mark 0 2 0 60
            day 1
            mark 0 0 0 100
            mark 0 0 0 0
            mark 0 0 0 70
            scaled 0 0 0 0 -> 5
            scaled 0 0 0 1 -> 10
            scaled 0 2 0 0 -> 10
            scaled 0 2 0 1 -> 5
            day 1
            mark 0 0 0 0
            scaled 0 0 0 0 -> 5
            scaled 0 0 0 1 -> 10
            scaled 0 0 0 2 -> 0
            """);
        test("Terms, 'SCALED: are lower': one alike isn't", """
            2 * child 0 1 0
            mark 0 0 0 50
            mark 0 1 0 50
            scaled 0 0 0 0 -> 0
            scaled 0 1 0 0 -> 0
            mark 0 1 0 49
            scaled 0 0 0 0 -> 10
            scaled 0 1 0 0 -> 0
            mark 0 1 0 51
            scaled 0 0 0 0 -> 0
            scaled 0 1 0 0 -> 10
            """);
        test("Terms, 'SCALED: divided by how many such there are of other CHILDREN (cut down)': two of three", """
            4 * child 0 1 0
            mark 0 0 0 0
            mark 0 1 0 33
            mark 0 2 0 66
            mark 0 3 0 100
            scaled 0 0 0 0 -> 0
            scaled 0 1 0 0 -> 3
            scaled 0 2 0 0 -> 6
            scaled 0 3 0 0 -> 10
            """);
        String all = "14 * child 0 1 0\n";
        for (int c = 0; c < 14; c++) all += "mark 3 " + c + " 1 " + c + "\n";
        test("Terms, 'SCALED': marks of all 14", all, """
            scaled 3 0 1 0 -> 0
            scaled 3 1 1 0 -> 0
            scaled 3 2 1 0 -> 1
            scaled 3 12 1 0 -> 9
            scaled 3 13 1 0 -> 10
            """);
        test("Terms, 'SCALED: 5, if there are none': of other CHILDREN, of that TEACHER, of that sort, by that DAY", """
            2 * child 0 1 0
            mark 0 0 0 10
            mark 0 0 0 90
            scaled 0 0 0 0 -> 5
            mark 1 1 0 50
            scaled 0 0 0 0 -> 5
            mark 0 1 1 50
            scaled 0 0 0 0 -> 5
            scaled 0 1 1 0 -> 5
            day 1
            mark 0 1 0 50
            scaled 0 0 0 0 -> 5
            scaled 0 0 0 1 -> 10
            scaled 0 1 0 1 -> 0
            """);
        test("Terms, 'GIFT, NEED: the sum of all TEACHERS' SCALED ones by how many these are (cut down)': one to four TEACHERS", """
            3 * child 0 1 0
            mark 0 0 0 50
            mark 0 1 0 50
            scaled NONE 0 0 0 -> 0
            mark 1 0 0 50
            scaled NONE 0 0 0 -> 2
            mark 2 0 0 50
            scaled NONE 0 0 0 -> 3
            mark 3 0 0 50
            mark 3 1 0 40
            mark 3 2 0 40
            scaled NONE 0 0 0 -> 5
            mark 1 1 0 40
            scaled NONE 0 0 0 -> 6
            """);
        test("Terms, 'A CHILD's GIFT, NEED: 5, if none told': by that DAY", """
            2 * child 0 1 0
            rule 'even gift=5:1;even need=5:1;even gift=10:1;sum need:1;' -> 4
            holds 0 0 0 0 -> 1
            holds 1 0 0 0 -> 1
            scaled NONE 0 0 0 -> NONE
            late 0
            harm 3 -> 5
            day 1
            mark 0 0 0 51
            mark 0 1 0 50
            holds 0 0 0 0 -> 1
            holds 0 0 0 1 -> 0
            holds 2 0 0 1 -> 1
            holds 1 0 0 1 -> 1
            """);
    }

    private static void wishesAndPairs() {
        test("Terms, 'WISHES of a CHILD: three PLACES, each another CHILD or none (at first)'", """
            4 * child 0 1 0
            rule 'even wishes=0:1;even wishes=1:1;even wishes=2:1;even wishes=3:1;' -> 4
            of 0 4 -> NONE
            of 0 5 -> NONE
            of 0 6 -> NONE
            holds 0 0 0 0 -> 1
            wish 0 2 3
            holds 1 0 0 0 -> 1
            wish 0 0 1
            holds 2 0 0 0 -> 1
            wish 0 1 2
            holds 3 0 0 0 -> 1
            of 0 4 -> 1
            of 0 5 -> 2
            of 0 6 -> 3
            wish 0 2 NONE
            holds 2 0 0 0 -> 1
            """);
        test("Terms, 'WISHES of a CHILD: three PLACES': those of the next CHILD are not among them", """
            3 * child 0 1 0
            wish 1 0 2
            wish 1 1 2
            wish 1 2 2
            rule 'even wishes=0:1;friend:1;'
            holds 0 0 0 0 -> 1
            holds 0 0 2 0 -> 1
            make -> 2
            served 0 -> 3
            harm 1 -> 2
            ring 2 -> 2
            """);
        test("Terms, 'two may be one and the same': and all three", """
            2 * child 0 1 0
            wish 0 0 1 -> true
            wish 0 1 1 -> true
            of 1 10 -> 2
            wish 0 2 1 -> true
            of 1 10 -> 3
            wish 0 0 1 -> true
            of 1 10 -> 3
            rule 'even wishes=3:1;even named=3:1;even named=0:1;'
            holds 0 0 0 0 -> 1
            holds 1 0 1 0 -> 1
            holds 2 0 0 0 -> 1
            """);
        test("Terms, 'OWED of a CHILD, REGRET of two CHILDREN: 0 at first'", """
            2 * child 0 1 0
            of 0 3 -> 0
            regret 0 1 -> 0
            regret 1 0 -> 0
            """);
        test("Terms, 'BARS, TWINS, NOTS': none at first, and one of two CHILDREN is none of others", """
            3 * child 0 1 0
            of 0 8 -> 0
            of 0 9 -> 0
            bar 0 1 true
            of 0 9 -> 1
            of 1 9 -> 1
            of 2 9 -> 0
            of 0 8 -> 0
            twins 1 2 true
            of 0 8 -> 0
            of 1 8 -> 1
            of 2 8 -> 1
            of 1 9 -> 1
            """);
    }

    private static void ruleLength() {
        test("Terms 2, 'a text of at most 400 bytes': none", "rule -> 0", "place -> NONE", "rule '' -> 0 at NONE");
        test("Terms 2, 'a text of at most 400 bytes': 400, of which the last counts", """
            rule '{393* }even:1;' -> 1 at NONE
            ! rule '{393* }even:1:' -> -2 at 399
            ! rule '{394* }even:1' -> -2 at 400
            ! rule '{400*;}' -> -2 at 0
            ! rule '{400*a}' -> -2 at 0
            ! rule '{400*1}' -> -2 at 0
            ! rule 'even:{395*1}' -> -2 at 5
            ! rule 'even{396* }' -> -2 at 400
            """);
        test("Terms 2, 'at most 16 STATEMENTS': none, of blanks alone", """
            rule ' ' -> 0
            rule '\\n' -> 0
            rule '{400*\\n}' -> 0
            """);
        test("Terms 2, 'at most 16 STATEMENTS': 15 and 16 of 400 bytes", """
            rule '{15*friend:1;}{265* }' -> 15
            rule '{15*apart sex=1from sex=0;}even:1;{18* }' -> 16
            """);
        test("Terms 2, 'At first it is without STATEMENTS'", "count 7 -> 0", "child 0 1 0", "holds 0 0 0 0 -> NONE", "plan 0 -> 0");
        test("Terms 2, '{STATEMENT ;}': each one ends with its ;", """
            ! rule 'even:1' -> -2 at 6
            ! rule 'even:1 friend:1;' -> -2 at 7
            ! rule 'even:1;;' -> -2 at 7
            ! rule ';' -> -2 at 0
            ! rule 'even:1;friend:1' -> -2 at 15
            rule 'even:1;friend:1;' -> 2
            """);
    }

    private static void ruleTokens() {
        test("Terms 2, 'blanks (32, 10) between where one likes'", """
            rule '\\n \\neven\\nsex\\n<\\n1\\n:\\n5\\n;\\n' -> 1
            rule ' even  sex  <  1  :  5  ; ' -> 1
            rule 'even sex<1:5;' -> 1
            rule 'most 1sex=0;least1sex=0;even tag1:1;even not tag\\n1and sex=1and not sex=0:1;' -> 4
            """);
        for (int b : new int[] {0, 1, 9, 11, 12, 13, 31, 33, 34, 46, 47, 63, 64, 65, 90, 91, 95, 96, 123, 126, 127, 128, 160, 255}) {
            String x = String.format("\\x%02x", b);
            test("Terms 2, 'FAULTS: 1 a byte with which no RULE goes on': byte " + b, "! rule '" + x + "' -> -2 at 0", "! rule 'even" + x + ":1;' -> -2 at 4",
                "! rule 'even sex" + x + "1:1;' -> -2 at 8", "! rule 'even:" + x + "1;' -> -2 at 5", "! rule 'even:1" + x + ";' -> -2 at 6", "! rule 'even:1;" + x + "' -> -2 at 7");
        }
        test("Terms 2, 'words (small letters, as many as stand together)'", """
            ! rule 'evens:1;' -> -2 at 0
            ! rule 'eve n:1;' -> -2 at 0
            ! rule 'eve' -> -2 at 0
            ! rule 'evenz:1;' -> -2 at 0
            ! rule 'aeven:1;' -> -2 at 0
            ! rule 'evensex=1:1;' -> -2 at 0
            ! rule 'even:1;a' -> -2 at 7
            ! rule 'even:1;z' -> -2 at 7
            ! rule 'Even:1;' -> -2 at 0
            ! rule 'eveN:1;' -> -2 at 0
            ! rule 'even notsex=1:1;' -> -2 at 5
            ! rule 'even sexx=1:1;' -> -2 at 5
            ! rule 'even se=1:1;' -> -2 at 5
            ! rule 'even tags 1:1;' -> -2 at 5
            rule 'even not sex=1:1;' -> 1
            """);
        test("Terms 2, 'REL: < = >', 'the SIGNS ; : and those of REL': each at its place alone", """
            rule 'even sex<1:1;even sex=1:1;even sex>1:1;' -> 3
            ! rule 'even sex:1:1;' -> -2 at 8
            ! rule 'even sex;1:1;' -> -2 at 8
            ! rule 'even sex<=1:1;' -> -2 at 9
            ! rule 'even sex==1:1;' -> -2 at 9
            ! rule 'even sex 1:1;' -> -2 at 9
            ! rule 'even=1;' -> -2 at 4
            ! rule 'even<1;' -> -2 at 4
            ! rule 'even>1;' -> -2 at 4
            ! rule 'even;' -> -2 at 4
            ! rule 'even:1:' -> -2 at 6
            ! rule 'even:1=' -> -2 at 6
            ! rule 'even tag=1:1;' -> -2 at 8
            ! rule 'even::1;' -> -2 at 5
            """);
        for (String word : "sex month gift need owed wishes named".split(" ")) {
            int end = 4 + word.length();
            test("Terms 2, 'WORD: " + word + "' stands in a sum and in TERMS, and begins no STATEMENT", "rule 'sum " + word + ":1;even " + word + ">0 and not " + word + "=3:1;' -> 2",
                "! rule '" + word + ":1;' -> -2 at 0", "! rule 'sum " + word + "=1:1;' -> -2 at " + end, "! rule 'sum " + word + " 1;' -> -2 at " + (end + 1),
                "! rule 'even " + word + ":1;' -> -2 at " + (end + 1), "! rule 'twins " + word + ";' -> -2 at 6");
        }
        test("Terms 2, 'HOW: apart, joined, free'", """
            rule 'twins apart;twins joined;twins free;' -> 3
            ! rule 'twins;' -> -2 at 5
            ! rule 'twins most;' -> -2 at 6
            ! rule 'twins twins;' -> -2 at 6
            ! rule 'twins not;' -> -2 at 6
            ! rule 'twins free free;' -> -2 at 11
            ! rule 'twins free:1;' -> -2 at 10
            ! rule 'joined;' -> -2 at 0
            ! rule 'free;' -> -2 at 0
            """);
        test("Terms 2, the kinds of STATEMENTS: what each goes on with", """
            ! rule 'sum:1;' -> -2 at 3
            ! rule 'sum tag 1:1;' -> -2 at 4
            ! rule 'sum sex month:1;' -> -2 at 8
            ! rule 'friend sex=1:1;' -> -2 at 7
            ! rule 'friend;' -> -2 at 6
            ! rule 'regret sex=1:1;' -> -2 at 7
            ! rule 'regret;' -> -2 at 6
            ! rule 'alone:1;' -> -2 at 5
            ! rule 'alone sex=1;' -> -2 at 11
            ! rule 'apart from sex=1;' -> -2 at 6
            ! rule 'apart sex=1;' -> -2 at 11
            ! rule 'apart sex=1 from;' -> -2 at 16
            ! rule 'apart sex=1 from sex=1:1;' -> -2 at 22
            ! rule 'apart:1;' -> -2 at 5
            ! rule 'most sex=1;' -> -2 at 5
            ! rule 'most 1;' -> -2 at 6
            ! rule 'most 1:1;' -> -2 at 6
            ! rule 'most 1 sex=1:1;' -> -2 at 12
            ! rule 'least sex=1;' -> -2 at 6
            ! rule 'least 1;' -> -2 at 7
            ! rule 'from;' -> -2 at 0
            ! rule 'and;' -> -2 at 0
            ! rule 'not;' -> -2 at 0
            ! rule 'tag 1;' -> -2 at 0
            ! rule '1;' -> -2 at 0
            """);
    }

    private static void ruleNumbers() {
        String[] aheads = {"even:", "sum sex:", "friend:", "alone sex=1:", "regret:", "most ", "least ", "even sex<", "alone month=", "apart gift>", "apart sex=1 from need<"};
        String[] behinds = {";", ";", ";", ";", ";", " sex=1;", " sex=1;", ":1;", ":1;", " from sex=1;", ";"};
        for (int i = 0; i < aheads.length; i++) {
            String a = aheads[i];
            String b = behinds[i];
            int at = a.length();
            int gap = b.startsWith(" ") ? 1 : 0;
            test("Terms 2, 'NUMBERS have 1 or 2 digits' behind " + a, "rule '" + a + "0" + b + "' -> 1", "rule '" + a + "9" + b + "' -> 1", "rule '" + a + "00" + b + "' -> 1",
                "rule '" + a + "09" + b + "' -> 1", "rule '" + a + "99" + b + "' -> 1", "! rule '" + a + b + "' -> -2 at " + (at + gap), "! rule '" + a + "100" + b + "' -> -2 at " + at,
                "! rule '" + a + "000" + b + "' -> -2 at " + at, "! rule '" + a + "1 0" + b + "' -> -2 at " + (at + 2), "! rule '" + a + "999999999999" + b + "' -> -2 at " + at);
        }
        test("Terms 2, 'NUMBERS have 1 or 2 digits' behind tag", """
            rule 'even tag 0:1;even tag 7:1;even tag 00:1;even tag 07:1;' -> 4
            ! rule 'even tag:1;' -> -2 at 8
            ! rule 'even tag 000:1;' -> -2 at 9
            ! rule 'even tag 007:1;' -> -2 at 9
            ! rule 'even tag 100:1;' -> -2 at 9
            ! rule 'even tag 0 7:1;' -> -2 at 11
            """);
        test("Terms 2, 'NUMBERS': 0 and 99, and two digits as one digit", """
            2 * child 0 1 0
            late 0
            rule 'friend:0;friend:00;friend:7;friend:07;friend:99;friend:10;' -> 6
            harm 0 -> 0
            harm 1 -> 0
            harm 2 -> 7
            harm 3 -> 7
            harm 4 -> 99
            harm 5 -> 10
            """);
    }

    private static void ruleFaults() {
        test("Terms 2, 'FAULTS, the first from the left'", """
            ! rule 'even tag 8:123;#' -> -3 at 9
            ! rule 'even:123;even tag 8:1;' -> -2 at 5
            ! rule 'even tag 9:1;{16*even:1;}' -> -3 at 9
            ! rule '{16*even:1;}even tag 9:1;' -> -4 at 112
            ! rule '{15*even:1;}even tag 9:1;even:1;' -> -3 at 114
            ! rule 'even sex=1 and sex=1 and sex=1 and tag 8 and sex=1:1;' -> -3 at 39
            ! rule 'even sex=1 and sex=1 and sex=1 and tag 7 and tag 8:1;' -> -4 at 45
            ! rule '#even tag 8' -> -2 at 0
            """);
        test("Terms 2, 'of one place the least': 1 ahead of 2 and of 3", """
            ! rule 'even tag 123:1;' -> -2 at 9
            ! rule 'even tag 800:1;' -> -2 at 9
            ! rule '{16*even:1;}evens:1;' -> -2 at 112
            ! rule '{16*even:1;}#' -> -2 at 112
            ! rule 'even sex=1 and sex=1 and sex=1 and sex=1 and sexes' -> -2 at 45
            ! rule 'even sex=1 and sex=1 and sex=1 and sex=1 and #' -> -2 at 45
            """);
        test("Terms 2, '(a longer NUMBER at its first byte)'", """
            ! rule 'even:100;' -> -2 at 5
            ! rule 'even:  100;' -> -2 at 7
            ! rule 'even sex=012:1;' -> -2 at 9
            ! rule 'most 123 sex=1;' -> -2 at 5
            ! rule 'even:1;1000' -> -2 at 7
            """);
        test("Terms 2, '(the end: at how many bytes there are)'", """
            ! rule 'e' -> -2 at 0
            ! rule 'even' -> -2 at 4
            ! rule 'even  ' -> -2 at 6
            ! rule 'even\\n' -> -2 at 5
            ! rule 'even:' -> -2 at 5
            ! rule 'even:1' -> -2 at 6
            ! rule 'even:12' -> -2 at 7
            ! rule 'even:1; sum' -> -2 at 11
            ! rule 'even not' -> -2 at 8
            ! rule 'even tag' -> -2 at 8
            ! rule 'even tag 7' -> -2 at 10
            ! rule 'even sex=1 and ' -> -2 at 15
            ! rule 'even sex=1 and sex=1 and sex=1 and sex=1 and' -> -2 at 44
            ! rule 'apart sex=1 from' -> -2 at 16
            ! rule '{15*even:1;}even:1' -> -2 at 111
            """);
        test("Terms 2, 'FAULTS: 2 a TAG above 7'", """
            rule 'even tag 7:1;even not tag 07:1;' -> 2
            ! rule 'even tag 8:1;' -> -3 at 9
            ! rule 'even tag 08:1;' -> -3 at 9
            ! rule 'even tag 10:1;' -> -3 at 9
            ! rule 'even tag 99' -> -3 at 9
            ! rule 'even not tag 8:1;' -> -3 at 13
            ! rule 'even sex=1 and tag   8:1;' -> -3 at 21
            ! rule 'alone tag 8:1;' -> -3 at 10
            ! rule 'apart tag 8 from tag 9;' -> -3 at 10
            ! rule 'apart tag 7 from tag 8;' -> -3 at 21
            ! rule 'most 9 tag 8;' -> -3 at 11
            ! rule 'least 9 tag 8;' -> -3 at 12
            rule 'even sex=8:8;most 8 month=99;' -> 2
            """);
        for (String kind : "even:1; sum@sex:1; friend:1; alone@sex=1:1; regret:1; apart@sex=1@from@sex=1; most@1@sex=1; least@1@sex=1; twins@free;".split(" ")) {
            String s = kind.replace('@', ' ');
            test("Terms 2, 'FAULTS: 3 the first TOKEN of a 17th STATEMENT': " + s, "rule '{15*even:1;}" + s + "' -> 16", "! rule '{16*even:1;}" + s + "' -> -4 at 112",
                "! rule '{16*even:1;} \\n" + s.split("[^a-z]")[0] + "' -> -4 at 114");
        }
        test("Terms 2, 'FAULTS: 3 ... (if these may stand there)': no STATEMENT begins so", """
            ! rule '{16*even:1;}sex' -> -2 at 112
            ! rule '{16*even:1;}tag' -> -2 at 112
            ! rule '{16*even:1;}not' -> -2 at 112
            ! rule '{16*even:1;}from' -> -2 at 112
            ! rule '{16*even:1;}joined' -> -2 at 112
            ! rule '{16*even:1;}1' -> -2 at 112
            ! rule '{16*even:1;};' -> -2 at 112
            ! rule '{16*even:1;}:' -> -2 at 112
            rule '{16*even:1;} \\n ' -> 16
            """);
        String four = "sex=1 and not month<2 and tag 3 and not tag 4";
        String[][] terms = {{"even ", ":1;"}, {"alone ", ":1;"}, {"apart ", " from sex=1;"}, {"apart sex=1 from ", ";"}, {"apart " + four + " from ", ";"}, {"most 1 ", ";"}, {"least 1 ", ";"}};
        for (String[] t : terms) {
            int at = t[0].length() + four.length() + 5;
            test("Terms 2, 'TERMS: TERM {and TERM}, 4 at most', 'the first TOKEN of a 5th TERM of TERMS': behind " + t[0], "rule '" + t[0] + four + t[1] + "' -> 1",
                "! rule '" + t[0] + four + " and sex=1" + t[1] + "' -> -4 at " + at, "! rule '" + t[0] + four + " and not sex=1" + t[1] + "' -> -4 at " + at,
                "! rule '" + t[0] + four + " and tag 8" + t[1] + "' -> -4 at " + at, "! rule '" + t[0] + four + " and named' -> -4 at " + at,
                "! rule '" + t[0] + four + " and from' -> -2 at " + at, "! rule '" + t[0] + four + " and 1' -> -2 at " + at, "! rule '" + t[0] + four + " and and' -> -2 at " + at,
                "! rule '" + t[0] + four + " sex=1' -> -2 at " + (at - 4));
        }
        test("Terms 2, 'TERMS: 4 at most': each has its own, also in 16 STATEMENTS", "rule '{5*apart tag 1and tag 1and tag 1and tag 1from tag 1and tag 1and tag 1and tag 1;}' -> 5",
            "rule '{12*even sex=1and sex=1and sex=1:1;}' -> 12", "child 0 1 2", "rule '{16*alone tag 1and tag 1:1;}' -> 16", "holds 15 0 0 0 -> 1");
        test("Terms 2, 'TERM: [not]': one at most", "rule 'even not sex=1:1;' -> 1", "! rule 'even not not sex=1:1;' -> -2 at 9", "! rule 'even not:1;' -> -2 at 8", "! rule 'even not and sex=1:1;' -> -2 at 9");
    }

    private static void ruleTerms() {
        test("Terms 2, TERMS of an earlier RULE, or of a text with a FAULT, are none of this one's", """
            2 * child 0 1 0
            rule 'even sex=1:1;even sex=1:1;' -> 2
            rule 'alone sex=1 and sex=1:1;alone sex=1:1;' -> 2
            rule 'even:1;even sex=0:1;' -> 2
            holds 0 0 0 0 -> 1
            holds 1 0 0 0 -> 1
            rule 'even sex=1 and sex=1:1;even sex=1' -> -2 at 33
            rule 'even:1;even sex=0:1;' -> 2
            holds 0 0 0 0 -> 1
            holds 1 0 0 0 -> 1
            """);
        String two = """
            child 0 1 0
            child 1 2 0
            mark 0 0 0 1
            mark 0 1 0 9
            mark 0 0 1 1
            mark 0 1 1 9
            wish 1 0 0
            wish 0 0 1
            late 1
            close
            wish 0 0 NONE
            make
            """;
        for (String word : "sex month gift need owed wishes named".split(" ")) {
            String is = word + "=" + value(word);
            test("Terms 2, 'WORD: " + word + "': in TERMS of the last of 16 STATEMENTS alone", two, "rule '{15*even:1;}alone " + is + ":1;' -> 16",
                "holds 15 0 0 0 -> 0", "holds 15 0 1 0 -> 1");
            test("Terms 2, 'WORD: " + word + "': in those behind from of the last of 16 STATEMENTS alone", two, "rule '{15*even:1;}apart tag 7 from " + is + ";' -> 16",
                "holds 15 1 0 0 -> 0", "holds 15 1 1 0 -> 1");
            test("Terms 2, 'WORD: " + word + "': in a sum, the last of 16 STATEMENTS, alone", two, "rule '{15*even:1;}sum " + word + ":1;' -> 16", "harm 15 -> " + sum(word));
        }
        test("Terms 2, 'TERMS hold for a CHILD': for the last of 14, by each WORD and TAG", """
            13 * child 0 1 0
            child 1 12 128
            rule 'alone sex=1:1;alone month=12:1;alone gift=10:1;alone need=10:1;alone owed=1:1;alone wishes=1:1;alone named=1:1;alone tag 7:1;' -> 8
            late 13
            close
            mark 0 0 0 0
            mark 0 13 0 1
            mark 0 0 1 0
            mark 0 13 1 1
            wish 13 0 1
            wish 0 2 13
            holds 0 0 13 0 -> 1
            holds 1 0 13 0 -> 1
            holds 2 0 13 0 -> 1
            holds 3 0 13 0 -> 1
            holds 4 0 13 0 -> 1
            holds 5 0 13 0 -> 1
            holds 6 0 13 0 -> 1
            holds 7 0 13 0 -> 1
            holds 7 0 12 0 -> 0
            rule 'sum sex:1;sum month:1;sum gift:1;sum need:1;sum owed:1;sum wishes:1;sum named:1;even tag 7:1;' -> 8
            room 1 0
            make -> 172
            harm 0 -> 1
            harm 1 -> 25
            harm 2 -> 70
            harm 3 -> 70
            harm 4 -> 1
            harm 5 -> 2
            harm 6 -> 2
            harm 7 -> 1
            """);
        test("Terms 2, 'REL: < = >': one less, the same, one more", """
            child 0 5 0
            child 0 6 0
            child 0 7 0
            rule 'even month<6:1;even month=6:1;even month>6:1;' -> 3
            holds 0 0 0 0 -> 1
            holds 0 0 1 0 -> 0
            holds 0 0 2 0 -> 0
            holds 1 0 0 0 -> 0
            holds 1 0 1 0 -> 1
            holds 1 0 2 0 -> 0
            holds 2 0 0 0 -> 0
            holds 2 0 1 0 -> 0
            holds 2 0 2 0 -> 1
            """);
        test("Terms 2, 'WORD REL NUMBER': 0 and 99", """
            child 0 12 0
            rule 'even sex<0:1;even sex=0:1;even sex>0:1;even month<99:1;even month=99:1;even month>99:1;even month>11:1;even month<12:1;' -> 8
            holds 0 0 0 0 -> 0
            holds 1 0 0 0 -> 1
            holds 2 0 0 0 -> 0
            holds 3 0 0 0 -> 1
            holds 4 0 0 0 -> 0
            holds 5 0 0 0 -> 0
            holds 6 0 0 0 -> 1
            holds 7 0 0 0 -> 0
            """);
        test("Terms 2, 'TERMS hold for a CHILD, if all TERMS do': the first alone and the last alone don't", """
            child 0 5 1
            rule 'even sex=0 and month=5 and tag 0 and not tag 1:1;even sex=1 and month=5 and tag 0 and not tag 1:1;even sex=0 and month=5 and tag 0 and tag 1:1;' -> 3
            holds 0 0 0 0 -> 1
            holds 1 0 0 0 -> 0
            holds 2 0 0 0 -> 0
            """);
        test("Terms 2, 'not: if it doesn't'", """
            child 1 6 1
            rule 'even not month<6:1;even not month=6:1;even not month>6:1;even not tag 0:1;even not tag 1:1;even not sex=1 and not sex=0:1;' -> 6
            holds 0 0 0 0 -> 1
            holds 1 0 0 0 -> 0
            holds 2 0 0 0 -> 1
            holds 3 0 0 0 -> 0
            holds 4 0 0 0 -> 1
            holds 5 0 0 0 -> 0
            """);
        test("Terms 2, '(OWED, WISHES as they are now)': as known on a DAY ahead, too", """
            2 * child 0 1 0
            rule 'even owed=0:1;even wishes=0:1;even named=0:1;'
            holds 0 0 0 0 -> 1
            holds 1 0 0 0 -> 1
            holds 2 0 1 0 -> 1
            late 0
            day 3
            wish 0 0 1
            wish 0 0 1
            close -> 1
            holds 0 0 0 0 -> 0
            holds 1 0 0 0 -> 0
            holds 2 0 1 0 -> 0
            holds 2 0 0 0 -> 1
            plan 0 -> 3
            """);
    }

    /** What the WORD of the second of the two CHILDREN above is, and not that of the first. */
    private static String value(String word) {
        return word.equals("month") ? "2" : word.equals("gift") || word.equals("need") ? "10" : word.equals("named") ? "0" : "1";
    }

    private static int sum(String word) {
        return word.equals("month") ? 3 : word.equals("gift") || word.equals("need") ? 10 : 1;
    }

    private static void soundness() {
        test("Terms 3, 'SOUND, if no CLASS has more than its ROOM': just its ROOM, and one more", """
            3 * child 0 1 0
            make
            room 0 3
            allowed 0 -> 1
            room 0 2
            allowed 0 -> 0
            plan 0 -> 0
            planned 0 2 -> 1
            room 1 1
            plan 0 -> 0
            room 1 0
            plan 0 -> -2
            """);
        test("Terms 3, 'SOUND, if no BAR is between two of one CLASS': of two CLASSES it may be", """
            2 * child 0 1 0
            make
            bar 0 1 true
            allowed 0 -> 0
            change -> 1
            allowed 0 -> 1
            """);
        test("Terms 3, 'SOUND, if no NOT is met': of another CLASS it isn't", """
            2 * child 0 1 0
            make
            not 0 1 true
            allowed 0 -> 1
            not 1 0 true
            allowed 0 -> 0
            change -> 1
            classOf 1 -> 1
            allowed 0 -> 1
            """);
        test("Terms 3, 'TWINS in it (free without one)'", """
            2 * child 0 1 0
            twins 0 1 true
            make
            allowed 0 -> 1
            not 0 0 true
            change -> 1
            allowed 0 -> 1
            """);
        test("Terms 3, 'TWINS in it are in one CLASS, if the last twins STATEMENT says joined, in two, if apart'", """
            2 * child 0 1 0
            twins 0 1 true
            make
            rule 'twins apart;'
            allowed 0 -> 0
            rule 'twins joined;'
            allowed 0 -> 1
            rule 'twins joined;twins apart;'
            allowed 0 -> 0
            rule 'twins apart;twins joined;'
            allowed 0 -> 1
            rule 'twins apart;twins free;'
            allowed 0 -> 1
            rule 'twins joined;'
            not 0 0 true
            change -> 2
            allowed 0 -> 1
            rule 'twins apart;'
            allowed 0 -> 0
            rule 'twins free;'
            not 0 0 false
            bar 0 1 true
            change -> 1
            allowed 0 -> 1
            rule 'twins joined;'
            allowed 0 -> 0
            """);
        test("Terms 3, 'TWINS in it': one of them alone may be where it likes", """
            2 * child 0 1 0
            twins 0 1 true
            rule 'twins joined;'
            late 0 -> 0
            allowed 0 -> 1
            not 1 0 true
            ! late 1 -> -2
            rule 'twins apart;'
            late 1 -> 1
            close
            rule 'twins joined;'
            late 1 -> 1
            allowed 0 -> 1
            late 0 -> 1
            """);
        test("Terms 3, 'of each apart no CHILD of the first TERMS is in one CLASS with another one of the second ones': none with itself", """
            child 0 1 0
            child 1 2 0
            make
            rule 'apart sex=0 from sex=0;'
            allowed 0 -> 1
            rule 'apart sex=0 from sex=1;'
            allowed 0 -> 0
            rule 'apart sex=1 from sex=0;'
            allowed 0 -> 0
            rule 'apart sex=0 from month>0;'
            allowed 0 -> 0
            rule 'apart month>0 from sex=0;'
            allowed 0 -> 0
            rule 'apart month>2 from month>0;'
            allowed 0 -> 1
            rule 'apart month>0 from month>2;'
            allowed 0 -> 1
            rule 'apart sex=0 from sex=0;apart sex=0 from sex=1;'
            allowed 0 -> 0
            rule 'apart sex=0 from sex=1;apart sex=0 from sex=0;'
            allowed 0 -> 0
            """);
        test("Terms 3, 'of each apart no CHILD of the first TERMS is in one CLASS with another one of the second ones': two of both", """
            4 * child 0 1 0
            2 * child 1 1 0
            rule 'apart sex=0 from sex=0;'
            late 0
            late 4
            late 5
            allowed 0 -> 1
            late 1 -> 1
            allowed 0 -> 1
            ! late 2 -> -2
            classes 3
            late 2 -> 2
            plan 0 -> -2
            room 0 0
            room 1 0
            rule 'apart sex=1 from sex=1;'
            ! change -> -2
            room 0 14
            change -> 2
            allowed 0 -> 1
            classOf 4 -> 0
            classOf 5 -> 2
            """);
        test("Terms 3, 'of each most no CLASS has more than NUMBER of whom TERMS hold': just NUMBER, and one more", """
            3 * child 0 1 0
            child 1 1 0
            make
            rule 'most 3 sex=0;'
            allowed 0 -> 1
            rule 'most 2 sex=0;'
            allowed 0 -> 0
            rule 'most 0 sex=1;'
            allowed 0 -> 0
            plan 0 -> -2
            rule 'most 0 sex>1;'
            allowed 0 -> 1
            rule 'most 2 sex=0;most 9 sex=0;'
            allowed 0 -> 0
            rule 'most 99 sex=0;'
            allowed 0 -> 1
            """);
        test("Terms 3, 'LACK: the sum of what CLASSES have less than NUMBER of those, over all least STATEMENTS': just NUMBER lacks nothing, more neither", """
            3 * child 0 1 0
            child 1 1 0
            rule 'even sex=0:1;'
            keep -> 1
            rule 'least 1 sex=0;'
            allowed 1 -> 0
            allowed 0 -> 1
            rule 'least 2 sex=0;'
            allowed 1 -> 1
            allowed 0 -> 0
            rule 'least 3 sex=0;'
            allowed 1 -> 3
            rule 'least 99 sex=0;'
            allowed 1 -> 195
            rule 'least 2 sex=0;least 1 sex=1;least 1 sex=0;'
            allowed 1 -> 2
            rule 'least 0 sex>1;'
            allowed 1 -> 0
            classes 3
            rule 'least 1 sex=0;'
            allowed 1 -> 1
            """);
    }

    /** In the last CLASS as in the first: all CHILDREN of a LIST are in CLASS 2. */
    private static void lastClass() {
        String three = """
            3 * child 0 1 0
            classes 3
            room 0 0
            room 1 0
            make
            count 12 -> 3
            """;
        test("Terms 3, 'SOUND': no CLASS, nor the last one, has more than its ROOM, a BAR, a NOT", three, """
            allowed 0 -> 1
            room 2 3
            allowed 0 -> 1
            room 2 2
            allowed 0 -> 0
            room 2 14
            bar 1 2 true
            allowed 0 -> 0
            bar 1 2 false
            not 2 1 true
            allowed 0 -> 1
            not 2 2 true
            allowed 0 -> 0
            """);
        test("Terms 3, 'SOUND': no CLASS, nor the last one, has TWINS apart, whom apart parts, more than most", three, """
            twins 1 2 true
            rule 'twins apart;'
            allowed 0 -> 0
            rule 'twins joined;'
            allowed 0 -> 1
            rule 'apart sex=0 from month=1;'
            allowed 0 -> 0
            rule 'most 3 sex=0;'
            allowed 0 -> 1
            rule 'most 2 sex=0;'
            allowed 0 -> 0
            rule 'least 3 sex=0;'
            allowed 1 -> 6
            """);
        test("Terms 3, 'HARM': of no CLASS less than of others", three, """
            rule 'even:1;sum month:1;friend:1;alone sex=0:1;regret:1;'
            harm 0 -> 3
            harm 1 -> 3
            harm 2 -> 3
            harm 3 -> 0
            word 0 0 0
            word 1 0 0
            word 2 0 0
            close -> 3
            late 0 -> 2
            harm 3 -> 1
            harm 4 -> 0
            late 2 -> 2
            harm 3 -> 0
            harm 4 -> 1
            late 1 -> 2
            harm 4 -> 3
            harm 2 -> 6
            """);
        test("Terms 3, 'HARM, alone': one in each of three CLASSES", """
            3 * child 0 1 0
            classes 3
            rule 'alone sex=0:9;even:99;'
            make -> 27
            harm 0 -> 27
            """);
        test("Terms 3, of 14 CHILDREN the last two", """
            14 * child 0 1 0
            rule 'friend:1;twins apart;regret:9;'
            wish 12 1 13
            wish 13 2 12
            make -> 12
            served 12 -> 1
            served 13 -> 2
            word 12 0 0
            word 13 0 0
            close -> 12
            regret 12 13 -> 1
            make -> 26
            classOf 12 -> 0
            classOf 13 -> 1
            harm 0 -> 26
            swaps -> 0
            wish 12 0 0
            wish 12 1 NONE
            wish 0 0 12
            wish 13 2 1
            make
            bar 12 13 true
            allowed 0 -> 1
            ring 12 -> 0
            ring 13 -> 13
            lonely 10 -> 13
            lonely 11 -> NONE
            day 1
            was 13 0 -> 1
            was 12 0 -> 0
            """);
    }

    private static void harm() {
        test("Terms 3, 'even: how far the greatest and the least of all CLASSES are apart in how many TERMS hold for': an empty one counts, too", """
            3 * child 0 1 0
            make
            rule 'even:5;even sex=1:7;even sex=0:99;even:0;'
            harm 0 -> 15
            harm 1 -> 0
            harm 2 -> 297
            harm 3 -> 0
            rule 'even:5;'
            keep -> 5
            classes 3
            harm 0 -> 10
            keep -> 0
            harm 0 -> 0
            """);
        test("Terms 3, 'sum: ... in the sum of WORD': of three CLASSES the greatest and the least alone", """
            child 0 1 0
            child 0 5 0
            child 0 12 0
            classes 3
            rule 'sum month:99;'
            not 0 0 true
            not 0 2 true
            not 1 0 true
            not 1 1 true
            not 2 1 true
            not 2 2 true
            keep -> 1089
            rule 'sum month:1;sum sex:1;sum need:2;'
            harm 0 -> 11
            harm 1 -> 0
            harm 2 -> 0
            """);
        test("Terms 3, 'friend: the sum of 1 and OWED over all that are LEFT': none and all", """
            2 * child 0 1 0
            rule 'friend:3;'
            make -> 6
            close -> 2
            make -> 12
            wish 0 2 1
            harm 0 -> 6
            wish 1 1 0
            harm 0 -> 0
            wish 1 1 NONE
            close -> 1
            make -> 9
            """);
        test("Terms 3, 'alone: for how many TERMS hold who are the only such ones in their CLASS': one is, two and none aren't", """
            child 1 1 0
            2 * child 0 1 0
            make
            rule 'alone sex=1:7;alone sex=0:7;alone sex>1:7;alone month=1:7;'
            harm 0 -> 7
            harm 1 -> 0
            harm 2 -> 0
            harm 3 -> 0
            rule 'even sex=0:9;'
            keep -> 0
            rule 'alone sex=1:7;alone sex=0:7;alone sex>1:7;alone month=1:7;'
            harm 0 -> 7
            harm 1 -> 14
            harm 2 -> 0
            harm 3 -> 7
            """);
        test("Terms 3, 'regret: the sum of REGRET over all pairs in one CLASS': not of two CLASSES", """
            3 * child 0 1 0
            make
            word 0 0 0
            word 1 0 0
            word 2 0 0
            close
            rule 'regret:5;'
            make -> 5
            room 1 0
            make -> 15
            """);
        test("Terms 3, 'HARM, over all STATEMENTS': of 16, and of those without HARM 0", """
            2 * child 0 1 0
            make
            rule '{15*friend:99;}friend:1;'
            harm NONE -> 2972
            rule 'apart sex=1 from sex=1;most 9 sex=0;least 0 sex=0;twins free;friend:1;'
            harm 0 -> 0
            harm 1 -> 0
            harm 2 -> 0
            harm 3 -> 0
            harm 4 -> 2
            harm NONE -> 2
            """);
    }

    private static void bestPlan() {
        test("Terms 3, 'SERVED: a CHILD's best WISH (the least PLACE) of which the other one is in its CLASS; none: it is LEFT'", """
            4 * child 0 1 0
            wish 0 0 1
            wish 0 1 2
            wish 0 2 3
            late 0
            served 0 -> 3
            late 3
            served 0 -> 2
            late 2
            served 0 -> 1
            late 1
            served 0 -> 0
            bar 0 1 true
            change -> 1
            served 0 -> 1
            wish 0 1 NONE
            wish 0 2 NONE
            served 0 -> 3
            """);
        test("Terms 3, 'The best PLAN: of several the first, CHILD by CHILD, the lesser CLASS first'", """
            4 * child 0 1 0
            rule 'even:1;'
            plan 0 -> 0
            planned 0 0 -> 0
            planned 0 1 -> 0
            planned 0 2 -> 1
            planned 0 3 -> 1
            classes 3
            plan 0 -> 1
            planned 0 1 -> 0
            planned 0 2 -> 1
            planned 0 3 -> 2
            not 0 0 true
            planned 0 0 -> 1
            planned 0 1 -> 0
            planned 0 2 -> 0
            planned 0 3 -> 2
            """);
        test("Terms 3, 'The best PLAN: ALLOWED, of the least HARM': HARM 0 that isn't ALLOWED is none", """
            3 * child 0 1 0
            rule 'even:1;most 1 sex=0;'
            plan 0 -> -2
            rule 'even:1;most 2 sex=0;'
            plan 0 -> 1
            rule 'friend:1;least 1 sex=0;'
            wish 0 0 1
            wish 1 0 2
            wish 2 0 0
            plan 0 -> 2
            planned 0 1 -> 0
            planned 0 2 -> 1
            """);
        test("Terms 3, 'of all who came by then (9 at most)': nine by then of fourteen, in three CLASSES", """
            classes 3
            9 * child 0 1 0
            rule 'even:5;'
            day 1
            5 * child 0 1 0
            plan 0 -> 0
            planned 0 2 -> 0
            planned 0 3 -> 1
            planned 0 8 -> 2
            planned 0 9 -> NONE
            plan 1 -> -3
            """);
        test("Terms 3, 'The best PLAN': one CLASS has ROOM alone, and it has HARM and LACK as others", """
            2 * child 0 1 0
            room 1 0
            rule 'friend:1;' -> 1
            plan 0 -> 2
            rule 'alone sex=0:1;even:3;' -> 2
            plan 0 -> 6
            rule 'least 1 sex=0;' -> 1
            plan 0 -> -2
            rule 'least 0 sex=0;most 2 sex=0;' -> 2
            plan 0 -> 0
            rule 'most 1 sex=0;' -> 1
            plan 0 -> -2
            room 1 14
            room 0 0
            rule 'friend:1;' -> 1
            plan 0 -> 2
            """);
        test("Terms 3, 'The best PLAN': HARM 1 isn't the least where 0 is", """
            2 * child 0 1 0
            make
            word 0 4 0
            word 1 4 0
            close
            rule 'regret:1;'
            plan 0 -> 0
            planned 0 0 -> 0
            planned 0 1 -> 1
            room 1 0
            plan 0 -> 1
            """);
        test("Terms 3, 'The best PLAN': of nine in three CLASSES by 16 STATEMENTS", """
            8 * child 1 1 0
            child 1 9 0
            classes 3
            rule '{16*sum month:99;}' -> 16
            plan 0 -> 7920
            planned 0 1 -> 0
            planned 0 3 -> 0
            planned 0 4 -> 1
            planned 0 7 -> 1
            planned 0 8 -> 2
            rule '{8*even sex=1:1;}{8*sum sex:2;}' -> 16
            plan 0 -> 0
            planned 0 2 -> 0
            planned 0 3 -> 1
            planned 0 6 -> 2
            rule '{16*least 3 sex=1;}' -> 16
            plan 0 -> 0
            planned 0 5 -> 1
            rule '{16*most 3 sex=1;}' -> 16
            keep -> 0
            count 12 -> 3
            rule '{15*friend:1;}regret:1;' -> 16
            plan 0 -> 135
            planned 0 8 -> 0
            """);
        test("Terms 3, 'The best PLAN': by the RULE as it is now, be it shorter", """
            3 * child 0 1 0
            rule 'even:1;sum month:2;friend:1;'
            plan 0 -> 6
            planned 0 2 -> 1
            rule 'friend:1;'
            plan 0 -> 3
            planned 0 2 -> 0
            rule ''
            plan 0 -> 0
            planned 0 2 -> 0
            rule 'sum sex:5;'
            plan 0 -> 0
            planned 0 2 -> 0
            """);
        test("Terms 3, 'as known on a DAY': what is told on a DAY behind isn't", """
            2 * child 0 1 0
            rule 'sum gift:1;'
            day 1
            mark 0 0 0 9
            mark 0 1 0 1
            plan 0 -> 0
            plan 1 -> 10
            room 1 0
            plan 0 -> 10
            plan 1 -> 10
            """);
    }

    private static void byHand() {
        test("Terms 3, 'A PLAN BY HAND: the lesser first': of two that bring the same HARM", """
            3 * child 0 1 0
            classes 3
            rule 'even sex=0:1;'
            make -> 0
            steps -> 0
            classOf 0 -> 0
            classOf 1 -> 1
            classOf 2 -> 2
            """);
        test("Terms 3, 'A PLAN BY HAND: to the CLASS in which it with those ahead is SOUND' though there is LACK: LACK is none of the first PLAN", """
            2 * child 0 1 0
            rule 'least 2 sex=0;most 2 sex=0;'
            make -> -4
            allowed 1 -> 2
            steps -> 0
            classOf 1 -> 0
            """);
        test("Terms 3, '(if there is none, there is no such PLAN)': of the first and of the last CHILD", """
            child 0 1 0
            not 0 0 true
            not 0 1 true
            ! make -> -2
            child 0 1 0
            not 0 1 false
            bar 0 1 true
            make -> 0
            not 1 0 true
            ! make -> -2
            """);
        test("Terms 3, 'the first STEP behind which LACK is less': though HARM is more", """
            3 * child 0 1 0
            rule 'least 1 sex=0;friend:9;'
            wish 0 0 1
            wish 1 0 2
            wish 2 0 0
            make -> 18
            steps -> 1
            classOf 0 -> 1
            classOf 1 -> 0
            classOf 2 -> 0
            """);
        test("Terms 3, 'or LACK the same and HARM less': HARM the same is no STEP", """
            4 * child 0 1 0
            rule 'even:1;'
            make -> 0
            steps -> 0
            classOf 1 -> 1
            classOf 2 -> 0
            rule 'friend:1;'
            make -> 4
            steps -> 0
            count 10 -> 4
            """);
        test("Terms 3, 'to move a CHILD to another CLASS (CHILD by CHILD, CLASS by CLASS), then to swap two': a move of the second goes ahead of a swap of the first", """
            child 0 4 0
            child 0 3 0
            child 0 8 0
            rule 'sum month:1;even:1;'
            make -> 2
            steps -> 1
            classOf 0 -> 0
            classOf 1 -> 0
            classOf 2 -> 1
            """);
        test("Terms 3, 'the first STEP behind which LACK is less': of the second CHILD, as that of the first is none", """
            child 1 1 0
            child 0 1 0
            child 0 1 0
            rule 'least 1 sex=0;even sex=1:9;'
            make -> 9
            steps -> 1
            classOf 0 -> 0
            classOf 1 -> 1
            classOf 2 -> 0
            """);
        test("Terms 3, 'then to swap two CHILDREN of two CLASSES (by the lesser, then the other one)': the first of four swaps", """
            child 0 5 0
            child 0 1 0
            child 0 1 0
            child 0 5 0
            rule 'even:9;sum month:1;'
            make -> 0
            steps -> 1
            classOf 0 -> 1
            classOf 1 -> 0
            classOf 2 -> 1
            classOf 3 -> 0
            """);
        test("Terms 3, 'then to swap two CHILDREN': the first that is SOUND, of the last two here", """
            child 0 5 0
            child 0 1 0
            child 0 1 0
            child 0 5 0
            not 0 1 true
            not 1 0 true
            rule 'even:9;sum month:1;'
            make -> 0
            steps -> 1
            classOf 0 -> 0
            classOf 1 -> 1
            classOf 2 -> 0
            classOf 3 -> 1
            """);
        test("Terms 3, 'to move a CHILD to another CLASS (CHILD by CHILD, CLASS by CLASS)': to CLASS 0, and by HARM alone", """
            child 0 3 0
            child 0 2 0
            child 0 2 0
            child 0 9 0
            not 3 0 true
            rule 'sum month:1;'
            make -> 2
            steps -> 2
            classOf 0 -> 0
            classOf 1 -> 0
            classOf 2 -> 0
            classOf 3 -> 1
            """);
        test("Terms 3, '(CHILD by CHILD, CLASS by CLASS)': the first CHILD to the last CLASS ahead of the second one to CLASS 1", """
            3 * child 0 1 0
            classes 3
            not 0 1 true
            rule 'least 2 sex=0;'
            make -> -4
            steps -> 1
            classOf 0 -> 2
            classOf 1 -> 0
            classOf 2 -> 0
            """);
        test("Terms 3, '(by the lesser, then the other one)': the first with the last ahead of the second with the third", """
            child 0 7 0
            child 0 3 0
            child 0 2 0
            child 0 6 0
            rule 'sum month:1;'
            make -> 0
            steps -> 2
            classOf 0 -> 1
            classOf 1 -> 0
            classOf 2 -> 1
            classOf 3 -> 0
            """);
        test("Terms 3, 'the first STEP': not the one that brings the most", """
            child 0 2 0
            child 0 4 0
            child 0 1 0
            child 0 6 0
            rule 'sum month:1;even:9;'
            make -> 1
            steps -> 2
            classOf 0 -> 0
            classOf 1 -> 0
            classOf 2 -> 1
            classOf 3 -> 1
            """);
        test("Terms 3, 'then again and again the first STEP': behind a STEP of the second CHILD one of the first", """
            child 0 3 0
            child 0 5 0
            child 0 3 0
            child 0 7 0
            rule 'sum month:1;'
            make -> 2
            steps -> 2
            classOf 0 -> 1
            classOf 1 -> 0
            classOf 2 -> 0
            classOf 3 -> 1
            """);
        test("Terms 3, 'the first STEP behind which it is SOUND': LACK where there is no ROOM is none", """
            2 * child 0 1 0
            room 1 0
            rule 'least 1 sex=0;'
            make -> -4
            steps -> 0
            room 1 14
            bar 0 1 true
            make -> 0
            steps -> 0
            bar 0 1 false
            not 0 1 true
            make -> 0
            steps -> 1
            classOf 1 -> 1
            """);
        test("Terms 3, 'A PLAN BY HAND, of all who came, as known on the DAY at hand'", """
            3 * child 0 1 0
            day 1
            child 0 1 0
            mark 0 0 0 9
            mark 0 1 0 1
            mark 0 2 0 1
            mark 0 3 0 9
            rule 'even gift>4:1;'
            make -> 0
            classOf 0 -> 0
            classOf 1 -> 0
            classOf 2 -> 0
            classOf 3 -> 1
            """);
        test("Terms 3, 'until there is none': STEPS behind STEPS", """
            6 * child 0 1 0
            classes 3
            rule 'least 2 sex=0;'
            make -> 0
            steps -> 4
            classOf 0 -> 1
            classOf 1 -> 1
            classOf 2 -> 2
            classOf 3 -> 2
            classOf 4 -> 0
            """);
    }

    private static void listPlaceAndChange() {
        test("Terms 3, 'THE LIST: a CHILD that comes is not on it'", """
            child 0 1 0
            keep -> 0
            child 0 1 0
            classOf 1 -> NONE
            count 5 -> 1
            rule 'even:1;'
            harm NONE -> 1
            """);
        test("Terms 3, 'HARM, LACK, SERVED of THE LIST are by those on it, as known on the DAY at hand'", """
            3 * child 0 1 0
            late 0
            late 1
            wish 0 0 2
            served 0 -> 3
            rule 'even:1;least 3 sex=0;even gift>5:1;'
            harm 0 -> 2
            allowed 1 -> 4
            harm 2 -> 0
            day 1
            mark 0 0 0 9
            mark 0 1 0 1
            harm 2 -> 1
            harm NONE -> 3
            """);
        test("Terms 3, 'HARM, LACK of THE LIST ... as known on the DAY at hand': SOUND and LACK, too", """
            2 * child 0 1 0
            late 0
            late 1
            rule 'most 1 gift=5;'
            allowed 0 -> 0
            rule 'least 1 gift=10;'
            allowed 1 -> 2
            day 1
            mark 0 0 0 9
            mark 0 1 0 1
            allowed 1 -> 1
            rule 'most 1 gift=5;'
            allowed 0 -> 1
            """);
        test("Terms 3, 'TO PLACE: ... ALLOWED and of the least HARM, the lesser first'", """
            5 * child 0 1 0
            rule 'even:1;'
            late 0 -> 0
            late 1 -> 1
            late 2 -> 0
            room 1 1
            late 3 -> 0
            classes 3
            late 4 -> 2
            """);
        test("Terms 3, 'TO CHANGE: that which moves the fewest, then of the least HARM, then the first': none is moved where THE LIST is ALLOWED", """
            4 * child 0 1 0
            make
            rule 'even:9;'
            change -> 0
            count 10 -> 4
            harm 0 -> 36
            room 0 3
            change -> 1
            classOf 3 -> 1
            count 10 -> 3
            room 0 2
            rule 'sum owed:1;'
            change -> 1
            classOf 1 -> 0
            classOf 2 -> 1
            classOf 3 -> 1
            """);
        test("Terms 3, 'TO CHANGE: that which moves the fewest': none of a LIST in CLASS 1 alone", """
            2 * child 0 1 0
            room 0 0
            make -> 0
            room 0 14
            change -> 0
            classOf 0 -> 1
            classOf 1 -> 1
            room 1 1
            change -> 1
            classOf 0 -> 0
            classOf 1 -> 1
            close
            room 0 0
            late 1 -> 1
            room 0 14
            change -> 0
            classOf 1 -> 1
            """);
        test("Terms 3, 'TO CHANGE: then of the least HARM'", """
            child 0 1 0
            child 0 9 0
            child 0 2 0
            child 0 3 0
            make
            rule 'sum month:1;'
            room 0 3
            change -> 1
            classOf 0 -> 0
            classOf 1 -> 1
            harm NONE -> 3
            """);
        test("Terms 3, 'of all ALLOWED PLANS for just those on THE LIST (9 at most on it)': not for those who aren't", """
            10 * child 0 1 0
            late 1
            late 2
            room 0 1
            change -> 1
            classOf 0 -> NONE
            classOf 1 -> 0
            classOf 2 -> 1
            count 5 -> 2
            """);
    }

    private static void swapsLiesRings() {
        String halves = """
            4 * child 0 1 0
            not 0 1 true
            not 1 1 true
            not 2 0 true
            not 3 0 true
            keep -> 0
            not 0 1 false
            not 1 1 false
            not 2 0 false
            not 3 0 false
            """;
        test("Terms 3, 'both are SERVED by a lesser PLACE then (LEFT counts as 3)': the same PLACE is no lesser one", halves, """
            wish 0 1 3
            swaps -> 0
            wish 2 2 1
            swaps -> 1
            wish 0 1 1
            wish 0 2 3
            swaps -> 0
            wish 0 2 NONE
            wish 0 1 1
            wish 0 0 3
            swaps -> 1
            wish 0 0 NONE
            wish 0 1 3
            wish 0 2 1
            swaps -> 1
            wish 0 1 NONE
            swaps -> 0
            """);
        test("Terms 3, 'A SWAP of two on THE LIST in two CLASSES': of one that isn't on it there is none", """
            3 * child 0 1 0
            wish 0 0 2
            wish 1 0 0
            wish 2 0 0
            swaps -> 0
            late 1 -> 0
            swaps -> 0
            bar 1 2 true
            late 2 -> 1
            swaps -> 0
            swap 0 0 -> NONE
            bar 1 2 false
            late 0 -> 0
            wish 0 0 1
            wish 0 1 2
            swaps -> 0
            wish 0 0 NONE
            wish 1 0 NONE
            swaps -> 0
            wish 2 0 1
            swaps -> 0
            wish 0 1 NONE
            wish 0 2 1
            swaps -> 0
            wish 1 2 2
            swaps -> 0
            """);
        test("Terms 3, 'if THE LIST is ALLOWED with it': without it it needn't be", halves, """
            wish 0 0 3
            wish 2 0 1
            swaps -> 1
            not 0 1 true
            swaps -> 0
            not 0 1 false
            not 0 0 true
            allowed 0 -> 0
            swaps -> 1
            not 0 0 false
            rule 'least 3 sex=0;'
            swaps -> 0
            rule 'least 2 sex=0;'
            swaps -> 1
            """);
        test("Terms 3, 'In order: the lesser CHILD's number, then the other one's'", halves, """
            wish 0 0 3
            wish 0 1 2
            wish 2 0 1
            wish 3 0 1
            wish 3 1 0
            wish 1 0 2
            wish 2 1 0
            swaps -> 3
            swap 0 0 -> 0
            swap 0 1 -> 2
            swap 1 0 -> 0
            swap 1 1 -> 3
            swap 2 0 -> 1
            swap 2 1 -> 3
            swap 3 0 -> NONE
            """);
        test("Terms 3, 'A LIE: if that CHILD had told that WISH alone: the PLACE by which it is SERVED there by its true WISHES'", """
            4 * child 0 1 0
            rule 'friend:1;most 2 sex=0;'
            wish 1 0 2
            wish 2 0 1
            wish 0 0 1
            wish 0 2 3
            plan 0 -> 1
            lie 0 0 -> 2
            lie 0 2 -> 2
            wish 0 1 3
            lie 0 0 -> 1
            lie 0 2 -> 1
            wish 1 0 0
            wish 2 0 3
            wish 3 0 0
            lie 0 0 -> 0
            lie 0 1 -> 0
            of 0 4 -> 1
            of 0 5 -> 3
            of 0 6 -> 3
            """);
        test("Terms 3, 'A LIE: if that CHILD had told that WISH alone': neither all its WISHES nor all others of them nor none", """
            4 * child 0 1 0
            rule 'friend:1;most 2 sex=0;'
            wish 0 0 1
            wish 0 1 2
            wish 2 0 0
            plan 0 -> 2
            planned 0 2 -> 0
            lie 0 0 -> 0
            lie 0 1 -> 1
            wish 2 0 NONE
            wish 1 0 3
            wish 3 0 2
            plan 0 -> 2
            planned 0 1 -> 0
            lie 0 0 -> 0
            lie 0 1 -> 1
            """);
        test("Terms 3, 'A LIE: the PLACE by which it is SERVED there by its true WISHES': in its CLASS alone", """
            3 * child 0 1 0
            bar 0 1 true
            wish 1 0 0
            wish 1 1 2
            rule 'friend:1;'
            lie 1 0 -> 3
            lie 1 1 -> 1
            wish 2 2 0
            lie 1 1 -> 3
            lie 2 2 -> 2
            """);
        test("Terms 3, 'A LIE: the best PLAN as known on the DAY at hand'", """
            3 * child 0 1 0
            wish 0 0 1
            wish 0 1 2
            rule 'apart gift=10 from gift=0;most 2 sex=0;'
            lie 0 0 -> 0
            day 1
            mark 0 0 0 9
            mark 0 1 0 1
            lie 0 0 -> 1
            """);
        test("Terms 3, 'LONELY is who is nobody's WISH': of whatever PLACE, as it is now", """
            2 * child 0 1 0
            lonely 0 -> 0
            wish 1 2 0
            lonely 0 -> 1
            lonely 1 -> NONE
            wish 1 2 NONE
            lonely 0 -> 0
            lonely 1 -> 1
            """);
        test("Terms 3, 'A RING: CHILDREN each of whom is led to each other by WISHES': one way is none", """
            3 * child 0 1 0
            wish 0 0 1
            ring 1 -> 1
            wish 1 2 0
            ring 1 -> 0
            ring 0 -> 0
            wish 1 1 2
            ring 2 -> 2
            wish 2 0 0
            ring 2 -> 0
            """);
        test("Terms 3, 'A RING': by two WISHES that are one and the same", """
            2 * child 0 1 0
            wish 0 0 1
            wish 0 1 1
            wish 1 1 0
            wish 1 2 0
            ring 1 -> 0
            rule 'friend:1;'
            make -> 0
            harm 0 -> 0
            """);
        String down = "14 * child 0 1 0\n";
        for (int c = 1; c < 14; c++) down += "wish " + c + " 0 " + (c - 1) + "\n";
        test("Terms 3, 'A RING: one behind the other': 14, each led to the one ahead", down, """
            ring 13 -> 13
            wish 0 2 13
            ring 13 -> 0
            ring 1 -> 0
            ring 0 -> 0
            wish 5 0 NONE
            ring 13 -> 13
            """);
        test("Terms 3, 'one alone is a RING, too'", """
            child 0 1 0
            ring 0 -> 0
            child 0 1 0
            ring 1 -> 1
            """);
    }

    private static void helpers() {
        test("Terms 4, 'HELPERS, at most 6, numbered as they come': none lack nothing by themselves", """
            child 0 1 0
            late 0
            help NONE -> 5
            help 0 -> NONE
            helper 5 -> 0
            help NONE -> 0
            """);
        test("Terms 4, '(the sum of NEED of those on THE LIST in it, less HOURS there, not below 0)': HOURS too many help no other CLASS", """
            3 * child 0 1 0
            rule 'even:1;'
            make
            helper 9 -> 0
            help NONE -> 6
            help 0 -> 0
            helper 60 -> 1
            help NONE -> 0
            help 0 -> 1
            help 1 -> 0
            """);
        test("Terms 4, '(the sum of NEED of those on THE LIST in it)', as known on the DAY at hand: 0, 5 where none is told, 10", """
            4 * child 0 1 0
            late 0
            late 1
            late 2
            help NONE -> 15
            day 1
            mark 0 0 1 9
            mark 0 1 1 1
            help NONE -> 15
            mark 0 0 0 9
            help NONE -> 15
            mark 0 1 1 9
            help NONE -> 5
            late 3
            help NONE -> 10
            mark 0 3 1 10
            help NONE -> 15
            """);
        test("Terms 4, 'HOURS': just the NEED, one less, one more", """
            2 * child 0 1 0
            make
            helper 9
            help NONE -> 1
            helper 1
            help NONE -> 0
            helper 1
            help NONE -> 0
            help 1 -> 0
            help 2 -> 0
            """);
        test("Terms 4, 'of several ways the first, HELPER by HELPER, the lesser CLASS first'", """
            2 * child 0 1 0
            classes 3
            rule 'even:1;'
            make
            helper 5
            helper 5
            help NONE -> 0
            help 0 -> 0
            help 1 -> 1
            helper 5
            help 0 -> 0
            help 1 -> 0
            help 2 -> 1
            close
            room 0 0
            room 1 0
            make
            help NONE -> 0
            help 0 -> 0
            help 1 -> 2
            help 2 -> 2
            """);
        test("Terms 4, 'each goes to one CLASS': six of them, in three CLASSES of five, five and four", """
            14 * child 0 1 0
            classes 3
            rule 'even:1;'
            make -> 1
            helper 25
            helper 15
            helper 10
            helper 10
            helper 6
            helper 4
            help NONE -> 0
            help 0 -> 0
            help 1 -> 1
            help 2 -> 1
            help 3 -> 2
            help 4 -> 2
            help 5 -> 2
            """);
    }

    private static void wordsAndYears() {
        test("Terms 4, 'both have WORDS that with DOUBT are below 5': 4 is, 5 isn't, of one alone isn't enough", """
            6 * child 0 1 0
            make
            word 0 4 0
            word 1 0 4
            word 2 5 0
            word 3 0 5
            word 4 2 3
            word 5 4 0
            close
            regret 0 1 -> 1
            regret 0 5 -> 1
            regret 1 5 -> 1
            regret 2 5 -> 0
            regret 3 5 -> 0
            regret 4 5 -> 0
            regret 0 2 -> 0
            regret 0 3 -> 0
            regret 0 4 -> 0
            regret 1 2 -> 0
            regret 2 3 -> 0
            """);
        test("Terms 4, 'both have WORDS': of one who has none it isn't", """
            3 * child 0 1 0
            make
            word 1 0 0
            close
            regret 0 1 -> 0
            regret 1 2 -> 0
            make
            word 0 0 0
            word 2 0 0
            close
            regret 0 2 -> 1
            regret 0 1 -> 0
            regret 1 2 -> 0
            """);
        test("Terms 4, 'REGRET of each two of one CLASS': of each CLASS, and of all of the first and the last of 14", """
            14 * child 0 1 0
            classes 3
            not 0 0 true
            not 1 0 true
            not 2 0 true
            not 2 1 true
            not 13 0 true
            not 13 1 true
            make
            classOf 1 -> 1
            classOf 2 -> 2
            classOf 12 -> 0
            word 0 2 2
            word 1 2 2
            word 2 2 2
            word 3 2 2
            word 12 2 2
            word 13 2 2
            close -> 14
            regret 0 1 -> 1
            regret 2 13 -> 1
            regret 13 2 -> 1
            regret 3 12 -> 1
            regret 0 13 -> 0
            regret 2 3 -> 0
            regret 12 13 -> 0
            of 13 3 -> 1
            of 0 3 -> 1
            of 13 11 -> NONE
            """);
        test("Terms 4, 'the last told counts'", """
            2 * child 0 1 0
            make
            word 0 0 0
            word 1 5 0
            word 0 4 0
            word 1 4 0
            close
            regret 0 1 -> 1
            make
            word 0 0 0
            word 1 0 0
            word 1 4 1
            close
            regret 0 1 -> 1
            """);
        test("Terms 4, 'REGRET of each two of one CLASS': of two CLASSES not", """
            2 * child 0 1 0
            rule 'even:1;'
            make
            word 0 0 0
            word 1 0 0
            close
            regret 0 1 -> 0
            """);
        test("Terms 4, 'OWED of each on THE LIST that is LEFT is 1 more, that of others on it 0': of those not on it as it was", """
            3 * child 0 1 0
            make
            close -> 3
            of 0 3 -> 1
            of 2 3 -> 1
            wish 0 0 1
            late 0
            late 1
            close -> 1
            of 0 3 -> 0
            of 1 3 -> 2
            of 2 3 -> 1
            """);
        test("Terms 4, 'WORDS are none, THE LIST is empty'", """
            child 0 1 0
            make
            word 0 7 1
            close
            of 0 11 -> NONE
            of 0 12 -> NONE
            classOf 0 -> NONE
            count 5 -> 0
            make
            of 0 11 -> NONE
            """);
        String year = "make\nword 0 0 0\nword 1 0 0\nclose -> 2\n";
        test("Terms 4, '(99 at most each)': 98, 99 and no more", "2 * child 0 1 0", year.repeat(98), """
            of 0 3 -> 98
            regret 0 1 -> 98
            """, year, """
            of 0 3 -> 99
            regret 0 1 -> 99
            """, year, """
            of 0 3 -> 99
            of 1 3 -> 99
            regret 0 1 -> 99
            regret 1 0 -> 99
            count 6 -> 100
            rule 'even owed=99:1;even owed>98:1;even owed<99:1;friend:99;regret:99;'
            holds 0 0 0 0 -> 1
            holds 1 0 0 0 -> 1
            holds 2 0 0 0 -> 0
            make
            harm 3 -> 19800
            """);
        test("Terms 4, '(99 at most each)': 0 again for one that is SERVED", "2 * child 0 1 0", "make\nclose\n".repeat(100), """
            of 0 3 -> 99
            wish 0 0 1
            make
            close -> 1
            of 0 3 -> 0
            of 1 3 -> 99
            """);
    }

    private static void book() {
        test("Terms 4, 'each CHILD whose CLASS (or none) isn't what was written of it last (none at first) is written'", """
            2 * child 0 1 0
            day 1
            count 9 -> 0
            late 0
            day 1
            count 9 -> 1
            day 1
            count 9 -> 1
            close
            day 1
            count 9 -> 2
            day 1
            count 9 -> 2
            was 0 0 -> NONE
            was 0 1 -> 0
            was 0 2 -> 0
            was 0 3 -> NONE
            was 1 1 -> NONE
            """);
        test("Terms 4, 'THE BOOK: in which CLASS a CHILD was on THE LIST as a DAY ended': what changed and changed back on it isn't written", """
            child 0 1 0
            late 0
            day 1
            count 9 -> 1
            close
            late 0
            day 1
            count 9 -> 1
            not 0 0 true
            change -> 1
            not 0 0 false
            day 1
            count 9 -> 2
            was 0 1 -> 0
            was 0 2 -> 1
            """);
        test("Terms 4, 'As one ends': of many DAYS the first is the one on which it is written", """
            child 0 1 0
            late 0
            day 1000
            count 9 -> 1
            was 0 0 -> 0
            was 0 999 -> 0
            was 0 1000 -> 0
            close
            was 0 1000 -> NONE
            day 1000
            count 9 -> 2
            was 0 999 -> 0
            was 0 1000 -> NONE
            was 0 1999 -> NONE
            """);
        String year = "make\nday 1\nclose\nday 1\n";
        test("Terms 4, '400 times at most, then nothing more is written': 399 and 400", "13 * child 0 1 0", year.repeat(15), """
            count 9 -> 390
            late 0
            late 1
            late 2
            late 3
            late 4
            late 5
            late 6
            late 7
            late 8
            day 1
            count 9 -> 399
            make
            day 1
            count 9 -> 400
            was 8 31 -> 0
            was 9 31 -> 0
            was 10 31 -> NONE
            was 10 32 -> 0
            close
            day 1
            count 9 -> 400
            was 0 32 -> 0
            was 9 32 -> 0
            was 10 32 -> NONE
            was 0 33 -> NONE
            day 1000
            count 9 -> 400
            ! day -1 -> NONE
            """);
        test("Terms 4, '400 times at most': 14 at once, of whom 8 are written, CHILD by CHILD", "14 * child 0 1 0", year.repeat(14), """
            count 9 -> 392
            make
            day 1
            count 9 -> 400
            was 7 28 -> 0
            was 8 28 -> NONE
            was 13 28 -> NONE
            was 13 29 -> 0
            """);
    }
}
