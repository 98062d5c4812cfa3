/**
 * The sentences about texts (Terms I and IV, promises 4, 5, 29) that name a boundary, a method
 * each: at it, and one beyond it. A '^' stands ahead of the byte where the FAULT is due.
 */
final class TextEdgeTest {
    private static final int NONE = NoonBell.NONE;
    private static final String AB = "person a ward 1;person b ward 2;person c ward 2;task t hard 9;task u hard 8;";
    private static final String[] OWN_WORDS = {"person", "ward", "task", "hard", "does", "at", "covers", "knows", "learn",
        "forget", "can", "notice", "clock", "day", "points", "same", "own", "theirs", "or", "and", "not", "all", "min", "max"};
    private static final String[] ASK_WORDS = {"first", "last", "often", "total", "most", "least", "hour", "life", "dries"};

    private TextEdgeTest() {
    }

    // ---- how a text is judged

    private static int count(String text, char sign) {
        return (int) text.chars().filter(one -> one == sign).count();
    }

    private static NoonBell good(String text) {
        NoonBell bell = Twins.rich();
        Check.same("city " + text, Check.city(bell, text), count(text, ';'));
        Check.same("fault of " + text, bell.fault(0), 0);
        Check.same("place of " + text, bell.fault(1), NONE);
        Check.same("refused by " + text, bell.status(1), 0);
        Check.same("HOUR, KEPT, ACTS by " + text, bell.has(3) + bell.has(7) + bell.has(8), 0);
        Check.no("the tape goes by " + text, bell.end(1));
        return bell;
    }

    private static void bad(int fault, String marked) {
        String text = marked.replace("^", "");
        Twins.faulty("city " + text, Twins::rich, bell -> Check.city(bell, text), NONE, 1, fault, marked.indexOf('^'));
    }

    /** Behind AB. */
    private static void after(int fault, String marked) {
        bad(fault, AB + marked);
    }

    private static void goodAsk(String text, long answer) {
        NoonBell bell = Check.of(AB);
        Check.city(bell, "x");
        Check.same("ask " + text, Check.ask(bell, 0, text), answer);
        Check.same("fault of " + text, bell.fault(0), 0);
        Check.same("place of " + text, bell.fault(1), NONE);
        Check.no("the tape goes by " + text, bell.end(1));
    }

    private static void badAsk(int fault, String marked) {
        String text = marked.replace("^", "");
        Twins.faulty("ask " + text, Twins::rich, bell -> Check.ask(bell, 1, text), NoonBell.NOTHING, NONE, fault, marked.indexOf('^'));
    }

    private static String people(int n) {
        StringBuilder text = new StringBuilder();
        for (int k = 0; k < n; k++) text.append("person ").append((char) ('a' + k)).append(" ward 1;");
        return text.toString();
    }

    private static String tasks(int n) {
        StringBuilder text = new StringBuilder();
        for (int k = 0; k < n; k++) text.append("task ").append((char) ('p' + k)).append(" hard 1;");
        return text.toString();
    }

    private static String duties(int n) {
        StringBuilder text = new StringBuilder();
        for (int k = 0; k < n; k++) text.append("does a t at ").append(k).append(";");
        return text.toString();
    }

    // ---- I: how many of each

    private static void seventyStatements() {
        Check.sentence("I: { STATEMENT ; } (70 at most); a 71st STATEMENT (whatever stands there), at its first byte");
        good("");
        good(" ");
        good("\n \n");
        String most = AB + "knows a b 1;".repeat(65);
        good(AB + "knows a b 1;".repeat(64));
        good(most);
        good(most + " \n ");
        for (String beyond : new String[] {"knows a b 1;", "knows", "person", "person d ward 99;", "x", "9", "12345", ";", "(", "\u00ff", "\t", "\0"}) {
            bad(5, most + "^" + beyond);
            bad(5, most + " \n^" + beyond);
        }
        bad(1, AB + "knows a b 1;".repeat(64) + "^;");
        bad(1, AB + "knows a b 1;".repeat(64) + "knows a b 1^");
        bad(2, AB + "knows a b 1;".repeat(64) + "knows a b ^100;x");
    }

    private static void tenPeople() {
        Check.sentence("I: person NAME ward N (0 .. 9; 10 PEOPLE)");
        Check.same("none", good(tasks(1)).has(0), 0);
        Check.same("one", good(people(1)).has(0), 1);
        Check.same("ten", good(people(10)).has(0), 10);
        Check.same("nine and a task", good(people(9) + tasks(1)).has(0), 9);
        good(people(10) + "covers a b;");
        for (String beyond : new String[] {"person k ward 1;", "person a ward 1;", "person", "person 99", "person k ward 10;"}) {
            bad(5, people(10) + "^" + beyond);
            bad(5, people(10) + tasks(8) + "\n^" + beyond);
        }
        for (int ward : new int[] {0, 1, 8, 9}) Check.same("ward", good("person a ward " + ward + ";").person(0, 0), ward);
        Check.same("ward", good("person a ward 0009;").person(0, 0), 9);
        for (String beyond : new String[] {"10", "11", "99", "100", "9999", "0010"}) bad(2, "person a ward ^" + beyond + ";");
        bad(1, "person a ward ^-1;");
        bad(1, "person a ward ^;");
    }

    private static void eightTasks() {
        Check.sentence("I: task NAME hard N (0 .. 99; 8 TASKS)");
        Check.same("none", good(people(10)).has(1), 0);
        Check.same("eight", good(tasks(8)).has(1), 8);
        good(tasks(8) + people(10));
        for (String beyond : new String[] {"task z hard 1;", "task p hard 1;", "task", "task z hard 100;"}) {
            bad(5, tasks(8) + "^" + beyond);
        }
        for (int hard : new int[] {0, 1, 98, 99}) {
            NoonBell bell = good("person a ward 1;task t hard " + hard + ";can hard=" + hard + ";");
            Check.same("hard", bell.could(0, 0, 0, 0), 1);
        }
        for (String beyond : new String[] {"100", "101", "0100", "9999"}) bad(2, "task t hard ^" + beyond + ";");
        bad(1, "task t hard ^-1;");
        bad(1, "task t hard ^;");
    }

    private static void twentyFourDuties() {
        Check.sentence("I: does NAME NAME at N (one of the PEOPLE, a TASK, 0 .. 23; 24 DUTIES)");
        Check.same("none", good(AB).has(2), 0);
        Check.same("one", good(AB + duties(1)).has(2), 1);
        Check.same("24", good(AB + duties(24)).has(2), 24);
        Check.same("24 of one", good(AB + duties(24)).person(0, 5), 24);
        for (String beyond : new String[] {"does b t at 1;", "does a t at 1;", "does", "does x", "does b t at 24;"}) {
            after(5, duties(24) + "^" + beyond);
        }
        good(AB + duties(24) + "covers a b;");
        good(AB + "does a t at 0;does a t at 23;does a u at 0023;");
        for (String beyond : new String[] {"24", "25", "99", "0024", "9999"}) after(2, "does a t at ^" + beyond + ";");
        after(1, "does a t at ^-1;");
        after(1, "does a t at ^;");
        after(3, "does ^t a at 1;");
        after(3, "does a ^b at 1;");
    }

    private static void noDutyTwice() {
        Check.sentence("I: none like another one; FAULT 2: the clock of a DUTY that there is already, too, at it");
        good(AB + "does a t at 5;does b t at 5;does a u at 5;does a t at 6;");
        after(2, "does a t at 5;does a t at ^5;");
        after(2, "does a t at 5;does b t at 5;does a u at 5;does a t at ^05;");
        after(2, duties(23) + "does a t at ^22;");
        after(2, duties(23) + "does a t at ^0;");
        // the DUTY that was refused is none: the text as a whole is
        after(2, "does a t at ^24;does a t at 5;");
    }

    private static void covering() {
        Check.sentence("I: covers NAME NAME (two unlike ones; one covers one LIFE at most, a LIFE is covered by one at most)");
        good(AB + "covers a b;covers b a;");
        good(AB + "covers a b;covers b c;covers c a;");
        after(3, "covers a ^a;");
        after(3, "covers a b;covers b c;covers c ^c;");
        after(3, "covers a b;covers ^a c;");
        after(3, "covers a b;covers ^a b;");
        after(3, "covers a b;covers c ^b;");
        after(3, "covers a b;covers b c;covers c ^b;");
        after(3, "covers a b;covers ^a");
        after(3, "covers ^t a;");
        after(3, "covers a ^t;");
    }

    private static void knowing() {
        Check.sentence("I: knows NAME NAME N (two unlike ones, 0 .. 99; the last one of these two counts)");
        for (int points : new int[] {0, 1, 98, 99}) {
            Check.same("points", good(AB + "knows a b 50;knows a b " + points + ";").points(0, 1), points);
        }
        Check.same("the other way round", good(AB + "knows a b 5;knows b a 6;").points(0, 1), 5);
        Check.same("untold", good(AB + "knows a b 5;").points(1, 0), 0);
        for (String beyond : new String[] {"100", "101", "0100", "9999"}) after(2, "knows a b ^" + beyond + ";");
        after(1, "knows a b ^-1;");
        after(1, "knows a b ^;");
        after(3, "knows a ^a 1;");
        after(3, "knows a ^a 100;");
        after(3, "knows ^t a 1;");
        after(3, "knows a ^u 1;");
    }

    private static void oneOfEachRule() {
        Check.sentence("I: learn SUM, forget SUM, can TEST, notice TEST (one each); FAULT 5: a second one, too");
        String each = "learn 1;forget 1;can all;notice all;";
        good(AB + each);
        for (String word : new String[] {"learn", "forget", "can", "notice"}) {
            after(5, each + "^" + word);
            after(5, each + " ^" + word + " 1;");
            String one = word + (word.equals("learn") || word.equals("forget") ? " 1;" : " all;");
            after(5, one + "^" + one);
            after(1, one + "^" + word + "s 1;");
        }
    }

    // ---- I: numbers, names, blanks

    private static void digits() {
        Check.sentence("I: N (1 to 4 digits); FAULT 1: where a number is asked, a 5th digit at itself");
        for (String number : new String[] {"0", "9", "00", "10", "999", "000", "1000", "9999", "0000"}) {
            NoonBell bell = good(AB + "can " + number + "=" + Integer.parseInt(number) + " and " + number + "<9999+1;");
            Check.same(number, bell.could(0, 0, 0, 0), 1);
        }
        String[] asked = {"person d ward ", "task v hard ", "does a t at ", "knows a b ", "learn ", "learn 1+", "can points<", "can ", "learn min("};
        for (String ahead : asked) {
            after(1, ahead + "0000^0;");
            after(1, ahead + "0001^2;");
            after(1, ahead + "1234^56789;");
            after(1, ahead + "9999^9");
        }
        after(1, "person d ward^");
        after(1, "learn ^;");
        after(1, "learn 1+^;");
        // where none is asked, a number is one whole, at its first byte
        after(1, "^12345;");
        after(1, "person ^12345");
        after(1, "person d ^12345");
    }

    private static void names() {
        Check.sentence("I: NAMES: 1 to 6 letters; FAULT 1: a 7th letter at itself");
        NoonBell bell = good("person a ward 1;person abcdef ward 1;person abcdeg ward 1;person abcde ward 1;task zzzzzz hard 1;");
        Check.same("six letters", bell.letter(0, 1, 5), 6);
        Check.same("six letters", bell.letter(1, 0, 5), 26);
        Check.same("one letter", bell.letter(0, 0, 1), 0);
        String six = "person abcdef ward 1;person b ward 1;task zzzzzz hard 1;";
        good(six + "does abcdef zzzzzz at 1;covers abcdef b;knows b abcdef 1;");
        String[] asked = {"person ", "task ", "does ", "does b ", "covers ", "covers b ", "knows ", "knows b "};
        for (String ahead : asked) {
            bad(1, six + ahead + "abcdef^g");
            bad(1, six + ahead + "zzzzzz^zzz at 1;");
            bad(1, six + ahead + "person^s");
            bad(1, six + ahead + "^;");
            bad(1, six + ahead + "^7");
            bad(1, six + ahead + "^");
        }
        bad(1, "person ^ward 1;");
        for (char beyond : new char[] {'A', 'Z', '@', '[', '`', '{', '/', ':', '_', 127, 128, 223, 224, 255}) {
            bad(1, "person ^" + beyond + " ward 1;");
            bad(1, "person a^" + beyond + " ward 1;");
        }
    }

    private static void ownWords() {
        Check.sentence("I: NAMES: no OWN WORD; FAULT 1: where a NAME is asked, an OWN WORD so");
        String[] asked = {"person ", "task ", "does ", "does a ", "covers ", "covers a ", "knows ", "knows a "};
        for (String word : OWN_WORDS) {
            for (String ahead : asked) after(1, ahead + "^" + word + " 1;");
            if (word.length() < 6) good("person " + word + "x ward 1;task x" + word + " hard 1;");
            if (word.length() > 2) good("person " + word.substring(1) + " ward 1;");
        }
        for (String word : ASK_WORDS) good("person " + word + " ward 1;task x hard 1;does " + word + " x at 1;");
    }

    private static void unlikeNames() {
        Check.sentence("I: NAMES: unlike ones (of all sorts), told ahead of where they are asked; FAULT 3 at it");
        bad(3, "person a ward 1;person ^a ward 1;");
        bad(3, "person a ward 1;task ^a hard 1;");
        bad(3, "task a hard 1;task ^a hard 1;");
        bad(3, "task a hard 1;person ^a ward 1;");
        bad(3, "person a ward 1;person b ward 1;person ^a");
        good("person a ward 1;person aa ward 1;task aaa hard 1;");
        bad(3, "does ^a t at 1;" + AB);
        bad(3, "covers ^a b;" + AB);
        bad(3, "knows ^a b 1;" + AB);
        bad(3, "person a ward 1;does a ^t at 1;task t hard 1;");
        bad(3, "person a ward 1;covers a ^b;person b ward 1;");
        bad(3, "person a ward 1;knows a ^b 1;person b ward 1;");
        good("task t hard 1;person a ward 1;does a t at 1;person b ward 1;covers a b;");
    }

    private static void blanks() {
        Check.sentence("I: Blanks (10, 32) are where one likes (words and numbers side by side need one)");
        good("\n person\n\na  ward 1 \n;\n task t\nhard\n2; does a t at 3 ; can not [ min ( points , 1 ) < 2 ] ; ");
        good("person a ward 1;person b ward 1;covers a b;learn(1)+min(2,3)*points;can not[all]or[all]and(1)<2;");
        for (char beyond : new char[] {0, 9, 11, 13, 31, 33, 127, 160, 255}) {
            bad(1, "^" + beyond + "person a ward 1;");
            bad(1, "person^" + beyond + "a ward 1;");
            bad(1, "person a^" + beyond + "ward 1;");
            bad(1, "person a ward 1^" + beyond + ";");
            bad(1, "person a ward 1;^" + beyond);
        }
        bad(1, "^persona ward 1;");
        bad(1, "person award ^1;");
        bad(1, "person a ward^1;");
        bad(1, "person a^1 ward 1;");
        after(1, "^doesab t at 5;");
        after(1, "does a t at^5;");
        after(1, "knows a b^5;");
        after(1, "learn^5;");
        after(1, "^learnpoints;");
        after(1, "learn 5^points;");
        after(1, "learn points^5;");
        after(1, "can 1=1^and all;");
        after(1, "can 1=1^or all;");
        after(1, "can ^notall;");
        after(1, "can all ^orall;");
        good(AB + "can 1=1 and all or not all;learn(5)*points/(3);");
    }

    // ---- I: where a FAULT is

    private static void endsTooSoon() {
        Check.sentence("I: FAULT 1: at the text's length, if it ends too soon");
        String text = "person d ward 3 ; task v hard 7 ; does a t at 4 ; covers a b ; knows a b 5 ; "
                + "learn 1 + min ( 2 , ( 3 ) ) * points ; can not [ all or 1 < 2 ] and hard = 3 ; ";
        good(AB + text);
        int told = 5;
        for (int k = 1; k < text.length(); k++) {
            if (text.charAt(k) != ' ') continue;
            String cut = text.substring(0, k);
            boolean whole = cut.endsWith(";");
            if (whole) {
                told++;
                Check.same("STATEMENTS", Check.city(Twins.rich(), AB + cut), told);
                Check.same("STATEMENTS", Check.city(Twins.rich(), AB + cut + " \n"), told);
            } else {
                after(1, cut + "^");
                after(1, cut + " \n ^");
            }
        }
    }

    private static void firstByte() {
        Check.sentence("I: FAULT 1: the first byte with which no such text goes on (words and numbers whole, at their first byte)");
        for (String word : OWN_WORDS) {
            String begins = "person task does covers knows learn forget can notice";
            if (!begins.contains(word)) bad(1, "^" + word + " a ward 1;");
            bad(1, "^x" + word + " a ward 1;");
            if (!word.equals("ward")) bad(1, "person a ^" + word + " 1;");
            if (!word.equals("hard")) bad(1, "task a ^" + word + " 1;");
            if (!word.equals("at")) after(1, "does a t ^" + word + " 1;");
        }
        bad(1, "person a ward 1^");
        bad(1, "person a ward 1 ^x;");
        bad(1, "person a ward 1;^;");
        after(1, "covers a b ^5;");
        after(1, "learn ^all;");
        after(1, "learn 1^<2;");
        after(1, "learn ^[1];");
        after(1, "learn ^not 1;");
        after(1, "can ^;");
        after(1, "can 1^;");
        after(1, "can (1)^;");
        after(1, "can (1^<2);");
        after(1, "can 1<2^<3;");
        after(1, "can 1<^=2;");
        after(1, "can all ^all;");
        after(1, "can [all^;");
        after(1, "can all^];");
        after(1, "learn (1^;");
        after(1, "learn 1^);");
        after(1, "learn (^)");
        after(1, "learn min ^1,2);");
        after(1, "learn min(1^);");
        after(1, "learn min(1,2^,3);");
        after(1, "learn 1 ^mod 2;");
        after(1, "learn 1+^+2;");
        after(1, "learn ^+2;");
    }

    private static void wordsOfEachRule() {
        Check.sentence("I: PART: in learn and forget: same; in can: hard; own; in notice: same; theirs");
        String[] rules = {"learn ", "forget ", "can 1=", "notice 1="};
        String[] words = {"clock day points same", "clock day points same", "clock day points hard own", "clock day points same theirs"};
        for (int k = 0; k < rules.length; k++) {
            for (String word : "clock day points same hard own theirs hour life dries a t".split(" ")) {
                boolean there = (" " + words[k] + " ").contains(" " + word + " ");
                if (there) good(AB + rules[k] + word + ";");
                else after(1, rules[k] + "^" + word + ";");
            }
        }
    }

    private static void unlikeFaults() {
        Check.sentence("I: FAULTS, the first along the text");
        bad(2, "person a ward ^10;person a ward 1;");
        bad(3, "person a ward 1;person ^a ward 10;");
        bad(1, "person a ward 1^person a ward 10;");
        bad(2, "person a ward ^10");
        bad(2, "person a ward ^10 x");
        bad(2, "person a ward ^10(");
        after(3, "covers ^x at;");
        after(1, "covers ^at x;");
        after(2, "does a t at ^24");
        after(4, "learn ((((((^(");
        after(4, "learn ((((((^(1)))))));learn 1;");
        after(5, "learn 1;^learn (((((((");
        after(1, "learn ((((((^;(");
        after(3, "knows a ^a");
    }

    private static void sixOpen() {
        Check.sentence("I: FAULT 4: the 7th of ( [ not that is open at once (not until its FACT ends), at it");
        good(AB + "learn " + "(".repeat(6) + "1" + ")".repeat(6) + ";");
        after(4, "learn " + "(".repeat(6) + "^(1" + ")".repeat(7) + ";");
        after(4, "learn " + "(".repeat(6) + "^" + "(".repeat(30));
        good(AB + "can " + "[".repeat(6) + "all" + "]".repeat(6) + ";");
        after(4, "can " + "[".repeat(6) + "^[all");
        good(AB + "can " + "not ".repeat(6) + "all;");
        after(4, "can " + "not ".repeat(6) + "^not all;");
        good(AB + "forget " + "min(".repeat(6) + "1" + ",2)".repeat(6) + ";");
        after(4, "forget " + "max(".repeat(6) + "max^(1,2)");
        good(AB + "notice not[not[(min(1,2))<1]];");
        after(4, "notice not[not[(min(^(1),2))<1]];");
        after(4, "notice not[not[(min(1,^(1)))<1]];");
        good(AB + "can " + "[".repeat(5) + "not 1<2" + "]".repeat(5) + ";");
        after(4, "can " + "[".repeat(5) + "not ^[all]");
        after(4, "can " + "[".repeat(5) + "not ^(1)<2");
        after(4, "can " + "[".repeat(5) + "not 1<^(2)");
        // closed ones are not open any more
        good(AB + "learn ((((((1))))))+((((((2))))))*min((((((3))))),(((((4))))));");
        after(4, "learn ((((((1))))))+((((((^(");
        after(4, "learn (((((1)+((^((2");
        good(AB + "can not not not all and not not not not not not all;");
        good(AB + "can not 1=1 and [[[[[[all]]]]]] or ((((((1))))))=1;");
        after(4, "can not[not 1=1 and[[[[^[");
        good(AB + "can not[not 1=1 and[[[[all]]]]];");
        // a FACT's second SUM stands in its not, too
        good(AB + "can not (((((1)))))=(((((1)))));");
        after(4, "can not 1=(((((^(");
        good(AB + "can not 1=1 or ((((((1))))))=1;");
        // what could not stand there is FAULT 1, however many are open
        after(1, "learn ((((((^[");
        after(1, "learn ((((((^not");
        after(1, "learn ((((((min^;");
    }

    private static void ofFault() {
        Check.sentence("5: of the latest city() or ask(): its FAULT (0 without, and ahead of any), its place (NONE without); NONE for another what");
        NoonBell bell = new NoonBell();
        Check.same("ahead of any", bell.fault(0), 0);
        Check.same("ahead of any", bell.fault(1), NONE);
        for (int what : new int[] {-1, 2, 3, Integer.MAX_VALUE, Integer.MIN_VALUE}) {
            Check.same("another what", bell.fault(what), NONE);
            Twins.none("fault(" + what + ")", one -> one.fault(what));
        }
        Check.city(bell, "person a ward 10;");
        Check.same("of city()", bell.fault(0), 2);
        Check.same("of city()", bell.fault(1), 14);
        Check.same("another what, with a FAULT", bell.fault(2), NONE);
        Check.city(bell, "person a ward 1;");
        Check.same("without", bell.fault(0), 0);
        Check.same("without", bell.fault(1), NONE);
        Check.ask(bell, 0, "total 1;");
        Check.same("of ask()", bell.fault(0), 1);
        Check.same("of ask()", bell.fault(1), 7);
        Check.ask(bell, 1, "total 1");
        Check.same("ask() of none such: fault() stays", bell.fault(1), 7);
        Twins.slips(bell, 0);
        bell.on();
        bell.undo();
        Check.same("no other call changes it", bell.fault(1), 7);
        Check.ask(bell, 0, "total 1");
        Check.same("without", bell.fault(0), 0);
        Check.same("without", bell.fault(1), NONE);
        Check.city(bell, "");
        Check.same("the empty text", bell.fault(1), NONE);
        bell.ask(-1);
        Check.same("ask() of none such", bell.fault(0), 0);
    }

    private static void ofCity() {
        Check.sentence("4: NONE, refused (1), with a FAULT (all stays); without one nothing KEPT, no SLIPS, no ACTS; the seed stays");
        NoonBell bell = new NoonBell();
        Check.same("no text", bell.city(), 0);
        Check.same("refused", bell.status(1), 0);
        bell = Twins.rich();
        Check.yes("there is much", bell.has(7) > 0 && bell.has(8) > 0 && bell.who() != NONE && bell.has(4) > 0);
        int octet = bell.octet(4);
        Check.same("no text", Check.city(bell, ""), 0);
        for (int k = 0; k < 9; k++) Check.same("has " + k, bell.has(k), 0);
        Check.same("no SLIPS", bell.who(), NONE);
        Check.same("the image stays", bell.octet(4), octet);
        Check.no("nothing can be undone", bell.undo());
        // the seed stays: both ring the same bells
        NoonBell other = Twins.rich();
        Check.city(bell, Twins.CITY);
        Check.city(other, Twins.CITY);
        Check.same("HOUR", bell.bells(20), 480);
        Check.same("HOUR", other.bells(20), 480);
        NoonBell fresh = Check.of(Twins.CITY);
        fresh.bells(20);
        boolean unlike = false;
        for (int k = 0; k < 40; k++) {
            Check.same("what is KEPT", bell.kept(k, 2), other.kept(k, 2));
            unlike |= bell.kept(k, 0) != fresh.kept(k, 0) || bell.kept(k, 2) != fresh.kept(k, 2);
        }
        Check.yes("by another seed than 1", unlike);
        Twins.faulty("city() of nothing but a sign", Twins::rich, one -> Check.city(one, ";"), NONE, 1, 1, 0);
    }

    private static void longTexts() {
        Check.sentence("2, 4: a text of 1600 bytes");
        String text = people(10) + tasks(8);
        good(text + " ".repeat(1600 - text.length()));
        bad(1, text + " ".repeat(1599 - text.length()) + "^x");
        good(" ".repeat(1600));
        bad(1, " ".repeat(1599) + "^x");
        bad(1, "\n ".repeat(799) + "\n^;");
        badAsk(1, " ".repeat(1600) + "^");
        badAsk(1, "total 1" + " ".repeat(1592) + "^1");
        String sum = "learn 1" + "+1".repeat((1600 - 8) / 2) + ";";
        Check.same("its length", sum.length(), 1600);
        good(sum);
        String most = "(".repeat(5) + "1" + "+1".repeat(700) + ")".repeat(5);
        NoonBell bell = good("person a ward 1;task t hard 1;can " + most + "=701;");
        Check.same("it holds", bell.could(0, 0, 0, 0), 1);
    }

    // ---- IV: QUESTIONS

    private static void ofQuestions() {
        Check.sentence("IV: FAULTS: 1 as in I (an unknown word at its first byte; what stands behind it, too)");
        badAsk(1, "^");
        badAsk(1, " \n^");
        for (String word : ASK_WORDS) {
            boolean begins = "first last often total most least".contains(word);
            if (begins) badAsk(1, word + "^");
            if (begins) badAsk(1, word + " \n^");
            if (!begins) badAsk(1, "^" + word + " all");
            badAsk(1, "^" + word + "s 1");
            badAsk(1, "^x" + word + " 1");
            if (begins) badAsk(1, "total ^" + word);
        }
        for (String word : OWN_WORDS) {
            badAsk(1, "^" + word + " all");
            boolean part = "clock day points min max".contains(word);
            if (!part) badAsk(1, "total ^" + word);
            if (!part && !word.equals("all") && !word.equals("not")) badAsk(1, "first ^" + word + " 1<2");
        }
        for (String word : "hour clock day life dries".split(" ")) goodAsk("least " + word, 0);
        badAsk(1, "first ^ann<1");
        badAsk(1, "first ^abcdefgh<1");
        for (String behind : new String[] {"^;", "^x", "^all", "^5", "^)", "^]", "^\t", "^\u00ff", "^total 1"}) {
            badAsk(1, "first all " + behind);
            badAsk(1, "total (1) " + behind);
        }
        badAsk(1, "total 1^.");
        badAsk(1, "total 1^=1");
        badAsk(1, "first 1^");
        badAsk(1, "first (1^=1)");
        badAsk(1, "total 1^x");
        badAsk(1, "total^1");
        badAsk(1, "total points^1");
        badAsk(1, "total points ^;");
        badAsk(1, "total points^");
        badAsk(1, "total points ^-1");
        badAsk(1, "total points ^all");
        goodAsk("total points(0)-1+1", 48 * 99);
        goodAsk("first not 1=2", 0);
    }

    private static void digitsOfQuestions() {
        Check.sentence("IV: N as in I (1 to 4 digits; a 5th digit at itself)");
        goodAsk("most 9999", 9999);
        goodAsk("most 0000", 0);
        goodAsk("least points 0000", 99);
        badAsk(1, "most 9999^9");
        badAsk(1, "most 0000^0");
        badAsk(1, "most points 0000^0");
        badAsk(1, "first hour<1000^0");
    }

    private static void sixOpenInQuestions() {
        Check.sentence("IV: FAULT 4: the 7th of ( [ not points that is open at once (points until its PART ends), at it");
        goodAsk("total " + "(".repeat(6) + "1" + ")".repeat(6), 48);
        badAsk(4, "total " + "(".repeat(6) + "^(1");
        goodAsk("often " + "[".repeat(6) + "all" + "]".repeat(6), 48);
        badAsk(4, "often " + "[".repeat(6) + "^[all");
        goodAsk("often " + "not ".repeat(6) + "all", 48);
        badAsk(4, "often " + "not ".repeat(6) + "^not all");
        goodAsk("most " + "points ".repeat(6) + "0", 0);
        badAsk(4, "most " + "points ".repeat(6) + "^points 0");
        goodAsk("most " + "points(".repeat(3) + "0" + ")".repeat(3), 99);
        badAsk(4, "most " + "points(".repeat(3) + "^points 0");
        badAsk(4, "most " + "points(".repeat(3) + "^(0");
        badAsk(4, "most " + "points ".repeat(6) + "min^(0,1)");
        goodAsk("most " + "points ".repeat(5) + "min(0,1)", 99);
        goodAsk("first not[points(min(points 0,points 0))=0]", NONE);
        badAsk(4, "first not[not[points(min^(points 0,0))=0]]");
        badAsk(4, "first not[not[points min(^points 0,0)=0]]");
        goodAsk("first not[not[points min(0,1)=99]]", 0);
        // behind its PART points is not open any more: in a product, a sum, a FACT
        goodAsk("most points 0*points 0+points points points points points points 0", 9801);
        goodAsk("first points 0=points points points points points points 9", 0);
        goodAsk("first not points 0=points points points points points 0", NONE);
        badAsk(4, "first not points 0=points points points points points ^points 0");
        badAsk(1, "most " + "points ".repeat(6) + "^;");
    }

    public static void main(String[] args) {
        seventyStatements();
        tenPeople();
        eightTasks();
        twentyFourDuties();
        noDutyTwice();
        covering();
        knowing();
        oneOfEachRule();
        digits();
        names();
        ownWords();
        unlikeNames();
        blanks();
        endsTooSoon();
        firstByte();
        wordsOfEachRule();
        unlikeFaults();
        sixOpen();
        ofFault();
        ofCity();
        longTexts();
        ofQuestions();
        digitsOfQuestions();
        sixOpenInQuestions();
        Check.end("TextEdgeTest");
    }
}
