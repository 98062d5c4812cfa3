/** Terms I and IV, promises 4, 5, 29: the FAULTS of texts and their places. */
final class FaultTest {
    private static final String AB = "person a ward 1;person b ward 2;task t hard 9;";

    private FaultTest() {
    }

    private static String times(String text, int n) {
        return text.repeat(n);
    }

    private static void good(String text, int statements) {
        NoonBell bell = new NoonBell();
        Check.same("city " + text, Check.city(bell, text), statements);
        Check.same("fault of " + text, bell.fault(0), 0);
        Check.same("place of " + text, bell.fault(1), NoonBell.NONE);
        Check.same("refused by " + text, bell.status(1), 0);
    }

    private static void bad(String text, int fault, int place) {
        NoonBell bell = new NoonBell();
        Check.same("city " + text, Check.city(bell, text), NoonBell.NONE);
        Check.same("fault of " + text, bell.fault(0), fault);
        Check.same("place of " + text, bell.fault(1), place);
        Check.same("refused by " + text, bell.status(1), 1);
    }

    /** A fault behind AB, at its own place there. */
    private static void after(String text, int fault, int place) {
        bad(AB + text, fault, AB.length() + place);
    }

    private static void badAsk(String text, int fault, int place) {
        NoonBell bell = Check.of(AB);
        Check.same("ask " + text, Check.ask(bell, 0, text), NoonBell.NOTHING);
        Check.same("fault of " + text, bell.fault(0), fault);
        Check.same("place of " + text, bell.fault(1), place);
    }

    private static void goodAsk(String text, long answer) {
        NoonBell bell = Check.of(AB);
        bell.ask(0);
        Check.same("ask " + text, Check.ask(bell, 0, text), answer);
        Check.same("fault of " + text, bell.fault(0), 0);
        Check.same("place of " + text, bell.fault(1), NoonBell.NONE);
    }

    private static void goodTexts() {
        good("", 0);
        good(" \n ", 0);
        good("person a ward 0;", 1);
        good("\nperson\nabcdef\nward\n0009\n;\n", 1);
        good("person a ward 9 ; task b hard 99;does a b at 23;does a b at 0;", 4);
        good("person first ward 1;person hour ward 1;person life ward 1;task dries hard 0;", 4);
        good("person wards ward 1;person a ward 1;person ab ward 1;person ba ward 1;", 4);
        good(AB + "knows a b 5;knows a b 6;knows b a 99;knows b a 0;", 7);
        good(AB + "covers a b;covers b a;", 5);
        good(AB + "learn 9999;forget points-1;can all;notice all;", 7);
        good(AB + "learn min(1,max(2,3))*(4-5)/same+day;", 4);
        good(AB + "can not not[hard<1 or own=1 and all]and clock>2;", 4);
        good(AB + "notice theirs+same=points;", 4);
        good(AB + "learn((((((1))))));", 4);
        good(AB + "can not not not not not not all;", 4);
        good(AB + "can [[[[[[all]]]]]]and[[[[[[all]]]]]];", 4);
        good(AB + "can not[not[not[all]]]and not[not[not[1=1]]];", 4);
        good(AB + times("knows a b 1;", 67), 70);
        good(AB + times("knows a b 1;", 67) + " \n ", 70);
    }

    private static void faultOne() {
        bad("x;", 1, 0);
        bad(";", 1, 0);
        bad("person", 1, 6);
        bad("person  ", 1, 8);
        bad("person at", 1, 7);
        bad("person 5", 1, 7);
        bad("person Ann", 1, 7);
        bad("person aNn", 1, 8);
        bad("person abcdefg", 1, 13);
        bad("person abcdefghi ward 1;", 1, 13);
        bad("person personx", 1, 13);
        bad("person a1 ward 1;", 1, 8);
        bad("person a", 1, 8);
        bad("person a hard 1;", 1, 9);
        bad("person a wards 1;", 1, 9);
        bad("person a ward1;", 1, 13);
        bad("person a ward x;", 1, 14);
        bad("person a ward -1;", 1, 14);
        bad("person a ward 00001;", 1, 18);
        bad("person a ward 123456;", 1, 18);
        bad("person a ward 1", 1, 15);
        bad("person a ward 1 1;", 1, 16);
        bad("person a ward 1;;", 1, 16);
        bad("persona ward 1;", 1, 0);
        bad("Person a ward 1;", 1, 0);
        bad("person\ta ward 1;", 1, 6);
        bad("person a\u00e9 ward 1;", 1, 8);
        bad("ward", 1, 0);
        bad("5", 1, 0);
        after("first all;", 1, 0);
        after("does a t 5;", 1, 9);
        after("does a t at5;", 1, 11);
        after("does a abcdefg at 5;", 1, 13);
        after("does at", 1, 5);
        after("knows a b;", 1, 9);
        after("knows a b5;", 1, 9);
        after("covers a;", 1, 8);
        after("learn ;", 1, 6);
        after("learn hard;", 1, 6);
        after("learn own;", 1, 6);
        after("learn theirs;", 1, 6);
        after("forget hard;", 1, 7);
        after("forget theirs;", 1, 7);
        after("can same=1;", 1, 4);
        after("can theirs=1;", 1, 4);
        after("notice hard=1;", 1, 7);
        after("notice own=1;", 1, 7);
        after("learn a;", 1, 6);
        after("learn -1;", 1, 6);
        after("learn 1+;", 1, 8);
        after("learn 1 2;", 1, 8);
        after("learn 12345;", 1, 10);
        after("learn 1day;", 1, 7);
        after("learn day1;", 1, 9);
        after("learn min 1;", 1, 10);
        after("learn min(1);", 1, 11);
        after("learn min(1,2;", 1, 13);
        after("learn (1;", 1, 8);
        after("learn 1);", 1, 7);
        after("learn [1];", 1, 6);
        after("learn 1=1;", 1, 7);
        after("learn points 0;", 1, 13);
        after("can 1;", 1, 5);
        after("can 1<2<3;", 1, 7);
        after("can all all;", 1, 8);
        after("can (1=1);", 1, 6);
        after("can [1];", 1, 6);
        after("can [1=1;", 1, 8);
        after("can 1=1and all;", 1, 7);
        after("can all or;", 1, 10);
        after("can not;", 1, 7);
        after("can 1<not all;", 1, 6);
        after("can 1 not;", 1, 6);
        after("can all", 1, 7);
    }

    private static void faultTwo() {
        bad("person a ward 10;", 2, 14);
        bad("person a ward 10x", 2, 14);
        bad("person a ward 9999;", 2, 14);
        bad("task a hard 100;", 2, 12);
        after("does a t at 24;", 2, 12);
        after("does a t at 5;does a t at 5;", 2, 26);
        after("does a t at 5;does a t at 05;", 2, 26);
        after("knows a b 100;", 2, 10);
        good(AB + "does a t at 5;does b t at 5;does a t at 6;", 6);
    }

    private static void faultThree() {
        bad("person a ward 1;person a", 3, 23);
        bad("person a ward 1;task a", 3, 21);
        bad("task a hard 1;person a", 3, 21);
        bad("task a hard 1;task a", 3, 19);
        after("does x", 3, 5);
        after("does t", 3, 5);
        after("does a b", 3, 7);
        after("does a x", 3, 7);
        after("covers x a;", 3, 7);
        after("covers t a;", 3, 7);
        after("covers a x;", 3, 9);
        after("covers a a;", 3, 9);
        after("covers a b;covers a b;", 3, 18);
        after("person c ward 1;covers a b;covers c b;", 3, 36);
        after("knows x a 1;", 3, 6);
        after("knows a t 1;", 3, 8);
        after("knows a a 1;", 3, 8);
        after("knows a a 100;", 3, 8);
        bad("does a t at 1;person a ward 1;", 3, 5);
    }

    private static void faultFour() {
        after("learn (((((((1)))))));", 4, 12);
        after("learn ((((((1))))))+(((((((", 4, 26);
        after("learn ((((((min(1,2)))))));", 4, 15);
        after("learn min(min(min(min(min(min(min(1,", 4, 33);
        after("learn min(1,((((((1", 4, 17);
        after("learn ((((max(((1", 4, 15);
        after("learn ((((max(2,((1", 4, 17);
        good(AB + "learn ((((max((2),(1))))))+((((((3))))));", 4);
        after("can not not not not not not not all;", 4, 28);
        after("can [[[[[[[all]]]]]]];", 4, 10);
        after("can not[not[not[(1)=1]]];", 4, 16);
        after("can [[[not(((1)))=1]]];", 4, 12);
        good(AB + "can [[[not((1))=1 and(((1)))=1]]];", 4);
        after("can not[[[(((1)))=1]]];", 4, 12);
        after("can ((((((not", 1, 10);
    }

    private static void faultFive() {
        StringBuilder people = new StringBuilder();
        for (int k = 0; k < 10; k++) people.append("person ").append((char) ('a' + k)).append(" ward 1;");
        good(people.toString(), 10);
        bad(people + "person", 5, people.length());
        bad(people + " person a ward 99", 5, people.length() + 1);
        good(people + "task z hard 1;", 11);
        StringBuilder tasks = new StringBuilder();
        for (int k = 0; k < 8; k++) tasks.append("task ").append((char) ('a' + k)).append(" hard 1;");
        good(tasks.toString(), 8);
        bad(tasks + "task x", 5, tasks.length());
        StringBuilder duties = new StringBuilder(AB);
        for (int k = 0; k < 24; k++) duties.append("does a t at ").append(k).append(";");
        good(duties.toString(), 27);
        bad(duties + "does x", 5, duties.length());
        after("learn 1;learn 2;", 5, 8);
        after("forget 1;forget ", 5, 9);
        after("can all;can", 5, 8);
        after("notice all;notice all;", 5, 11);
        after(times("knows a b 1;", 67) + "knows a b 1;", 5, 67 * 12);
        after(times("knows a b 1;", 67) + " \u00e9", 5, 67 * 12 + 1);
        after(times("knows a b 1;", 67) + ";", 5, 67 * 12);
        after(times("knows a b 1;", 67) + "9", 5, 67 * 12);
    }

    private static void questions() {
        badAsk("", 1, 0);
        badAsk("  ", 1, 2);
        badAsk("some all", 1, 0);
        badAsk("firsts all", 1, 0);
        badAsk("first", 1, 5);
        badAsk("first all;", 1, 9);
        badAsk("first all all", 1, 10);
        badAsk("first 5", 1, 7);
        badAsk("total all", 1, 6);
        badAsk("total 1=1", 1, 7);
        badAsk("total same", 1, 6);
        badAsk("total hard", 1, 6);
        badAsk("total own", 1, 6);
        badAsk("total theirs", 1, 6);
        badAsk("total abcdefgh", 1, 6);
        badAsk("total 12345", 1, 10);
        badAsk("total points", 1, 12);
        badAsk("total points all", 1, 13);
        badAsk("total points0", 1, 12);
        badAsk("total 1x", 1, 7);
        badAsk("total1", 1, 5);
        badAsk("total points points points points points points points 0", 4, 48);
        badAsk("total points(points(points(points", 4, 27);
        badAsk("first not not not[[[points 0", 4, 20);
        badAsk("least ((((((( 1", 4, 12);
        goodAsk("total points points points points points points 0", 0);
        goodAsk("total 1", 48);
        goodAsk(" most\n( points 0 ) ", 99);
        goodAsk("least 0-9999", -9999);
        goodAsk("often all", 48);
    }

    public static void main(String[] args) {
        goodTexts();
        faultOne();
        faultTwo();
        faultThree();
        faultFour();
        faultFive();
        questions();
        Check.end("FaultTest");
    }
}
