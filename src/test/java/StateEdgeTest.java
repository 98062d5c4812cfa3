/**
 * The sentences of Terms I to IV about what SUMS give, HOURS bring, what is KEPT, drawn, undone and
 * lies AHEAD, that name a boundary, a method each: at it, and one beyond it.
 */
final class StateEdgeTest {
    private static final int NONE = NoonBell.NONE;
    private static final String TWO = "person a ward 1;person b ward 2;task t hard 9;";
    private static final String MILLION = "1000*1000";

    private StateEdgeTest() {
    }

    // ---- what the tests are made of

    private static NoonBell at(String city, int hour) {
        NoonBell bell = Check.of(city);
        bring(bell, hour);
        return bell;
    }

    private static void bring(NoonBell bell, int hours) {
        for (int left = hours; left > 0; left -= 500) bell.go(Math.min(left, 500));
    }

    private static String people(int n) {
        StringBuilder text = new StringBuilder();
        for (int k = 0; k < n; k++) text.append("person ").append((char) ('a' + k)).append(" ward ").append(k % 10).append(";");
        return text.toString();
    }

    /** Each of n covers the next one; the last one the first one, if it is a ring. */
    private static String covers(int n, boolean ring) {
        StringBuilder text = new StringBuilder();
        for (int k = 0; k < (ring ? n : n - 1); k++) {
            text.append("covers ").append((char) ('a' + k)).append(' ').append((char) ('a' + (k + 1) % n)).append(';');
        }
        return text.toString();
    }

    private static String everyHour(String life) {
        StringBuilder text = new StringBuilder();
        for (int clock = 0; clock < 24; clock++) text.append("does ").append(life).append(" t at ").append(clock).append(";");
        return text.toString();
    }

    private static void holds(String... tests) {
        for (String test : tests) Check.same(test, Check.of(TWO + "can " + test + ";").could(0, 0, 0, 6), 1);
    }

    private static void fails(String... tests) {
        for (String test : tests) Check.same(test, Check.of(TWO + "can " + test + ";").could(0, 0, 0, 6), 0);
    }

    // ---- I: what a SUM, a TEST gives

    private static void held() {
        Check.sentence("I: each sum, difference, product above 10 to the 6 is that, below -10 to the 6 likewise");
        fails("999*1001=" + MILLION, "999*1001>" + MILLION);
        holds("999*1001+1=" + MILLION, "999*1001+2=" + MILLION, "999*1001+9999=" + MILLION);
        holds(MILLION + "+1=" + MILLION, MILLION + "+1-1=999*1001", MILLION + "+9999-1=999*1001");
        holds(MILLION + "-(0-1)=" + MILLION, MILLION + "-(0-1)-1=999*1001");
        holds("1000*1001=" + MILLION, "1000*1001-1=999*1001", "(0-1001)*(0-1000)=" + MILLION, "9999*9999=" + MILLION);
        String least = "0-" + MILLION;
        fails("0-999*1001=" + least, "0-999*1001<" + least);
        holds("0-999*1001-1=" + least, "0-999*1001-2=" + least, least + "-1=" + least, least + "-1+1=0-999*1001");
        holds("(" + least + ")+(0-1)=" + least, "(" + least + ")+(0-1)+1=0-999*1001");
        holds("(0-1000)*1000=" + least, "(0-1000)*1001=" + least, "(0-1000)*1001+1=0-999*1001");
        String most = "(" + MILLION + ")";
        holds(most + "*" + most + "=" + MILLION, most + "*(" + least + ")=" + least, "(" + least + ")*(" + least + ")=" + MILLION);
        holds(most + "+" + most + "=" + MILLION, "(" + least + ")-" + most + "=" + least);
        holds("max(" + MILLION + ",9999*9999)=" + MILLION, "min(" + least + ",0-9999*9999)=" + least, most + "/1=" + MILLION);
        // each on its own, from the left on
        holds(MILLION + "+5-5=" + MILLION + "-5", "5+(" + MILLION + "-5)=" + MILLION, MILLION + "*2/2=1000*500", MILLION + "*2/4=1000*250");
    }

    private static void divided() {
        Check.sentence("I: / gives the greatest whole number not above, by 0 it gives 0");
        holds("6/2=3", "7/2=3", "8/2=4", "1/2=0", "0/2=0", "1/9999=0", "9999/1=9999");
        holds("(0-6)/2=0-3", "(0-7)/2=0-4", "(0-8)/2=0-4", "(0-1)/2=0-1", "(0-1)/9999=0-1");
        holds("6/(0-2)=0-3", "7/(0-2)=0-4", "1/(0-9999)=0-1", "(0-7)/(0-2)=3", "(0-1)/(0-2)=0", "(0-2)/(0-1)=2");
        holds("5/0=0", "0/0=0", "(0-5)/0=0", "5/(1-1)=0", "5/(3/4)=0", "5/0+1=1", "5/0*9=0", "(0-9999*9999)/0=0");
        Check.same("by points, 0", Check.of(TWO + "can 5/points=0;").could(0, 1, 0, 0), 1);
        Check.same("by points, 99", Check.of(TWO + "can 198/points=2;").could(0, 0, 0, 0), 1);
    }

    private static void compared() {
        Check.sentence("I: SIGN < or > or =; all from the left on");
        holds("1<2", "2>1", "2=2", "0-1<0", "0>0-1", "0-2<0-1");
        fails("2<2", "3<2", "2>2", "2>3", "1=2", "2=1");
        holds("10-3-2=5", "100/7/2=7", "2*7/4=3", "7/4*2=2", "2+3*4=14", "(2+3)*4=20", "20-2*3-1=13", "9-6/2-1=5");
        holds("all or all and 1=2", "1=2 and 1=2 or all", "not 1=2 and all", "not not all", "not[1=2 or 2=1]");
        fails("[all or all]and 1=2", "not 1=2 and 1=2", "not all or 1=2", "not[1=1]");
        holds("min(1,1)=1", "min(0-1,0)=0-1", "max(0-1,0)=0", "max(3,3)=3");
    }

    private static void facts() {
        Check.sentence("I: clock is the HOUR modulo 24, day floor(HOUR / 24)");
        for (int hour : new int[] {0, 1, 23, 24, 25, 47, 48, 9983, 9984, 9998, 9999}) {
            NoonBell bell = at(TWO + "can day=" + hour / 24 + ";", hour);
            String now = "first hour=" + hour + " and clock=" + hour % 24 + " and day=" + hour / 24;
            Check.same(now, Check.ask(bell, 0, now), hour);
            Check.same("today", bell.could(0, 1, 0, 0), 1);
            Check.same("not the next day", at(TWO + "can day>" + hour / 24 + ";", hour).could(0, 1, 0, 23), 0);
        }
        Check.sentence("I: points 99 of his own; own 1 if it is his own LIFE, else 0; hard of the TASK");
        NoonBell bell = Check.of(TWO + "task u hard 0;task v hard 99;can points=99 and own=1 or hard=99 and own=0;");
        for (int task = 0; task < 3; task++) {
            Check.same("his own", bell.could(1, 1, task, 0), 1);
            Check.same("another one's", bell.could(0, 1, task, 0), task == 2 ? 1 : 0);
        }
        bell.teach(0, 1, 99);
        Check.same("99 of another one's is not his own", bell.could(0, 1, 0, 0), 0);
        Check.sentence("I: same 1 if he and whose LIFE it is are of one ward, else 0");
        bell = at("person a ward 0;person b ward 0;person c ward 9;forget 5+same;", 24);
        int[][] due = {{99, 6, 5}, {6, 99, 5}, {5, 5, 99}};
        for (int p = 0; p < 3; p++) {
            for (int life = 0; life < 3; life++) Check.same("same of " + p + " and " + life, bell.points(p, life), due[p][life]);
        }
    }

    // ---- II: a CALL

    private static void atFirst() {
        Check.sentence("II: It is HOUR 0 at first, all live their own LIVES, nobody is away or watches");
        for (int n : new int[] {0, 1, 2, 10}) {
            NoonBell bell = Check.of(people(n) + covers(n, n > 1));
            for (int k = 3; k < 9; k++) Check.same("has " + k, bell.has(k), 0);
            for (int p = 0; p < n; p++) {
                Check.same("lives", bell.person(p, 1), p);
                Check.same("watches", bell.person(p, 2), NONE);
                Check.same("is lived by", bell.person(p, 6), p);
            }
        }
    }

    private static void waves() {
        Check.sentence("II: who covers it goes on in it, if he is not away and lives his own LIFE so far, till a LIFE is left that nobody so can take");
        for (int n : new int[] {1, 2, 9, 10}) {
            NoonBell bell = Check.of(people(n) + covers(n, false));
            Check.same("nobody covers the first one", bell.wave(0, NONE), 0);
            Check.same("his LIFE is left", bell.wave(0, 20), 0);
            Check.same("all ahead of the last one", bell.call(n - 1), n - 1);
            Check.same("the first LIFE is left", bell.person(0, 6), NONE);
            Check.same("LIVES that nobody lives", bell.has(5), 1);
            Check.same("elsewhere", bell.has(6), n - 1);
            for (int p = 0; p < n - 1; p++) Check.same("lives", bell.person(p, 1), p + 1);
        }
        // a ring: till whose LIFE he covers who was called: he is away now
        NoonBell bell = Check.of(people(10) + covers(10, true));
        Check.same("nine of ten", bell.call(3), 9);
        Check.same("left", bell.person(4, 6), NONE);
        // who covers it is away
        bell = Check.of(people(3) + covers(3, false));
        bell.call(0);
        Check.same("a is away", bell.wave(1, NONE), 0);
        Check.same("b goes on, a is away", bell.wave(2, NONE), 1);
        Check.same("b's LIFE is left", bell.wave(2, 20), 1);
        // who covers it lives another LIFE
        bell = Check.of(people(4) + covers(4, false));
        bell.call(1);
        Check.same("a lives b's LIFE, b is away", bell.wave(2, NONE), 0);
        Check.same("c's LIFE is left", bell.wave(2, 20), 2);
        Check.same("c goes on, b is away", bell.call(3), 1);
        Check.same("c lives d's LIFE", bell.wave(2, NONE), 0);
        Check.same("d's LIFE is left again", bell.wave(2, 20), 3);
        Check.same("a leaves b's LIFE", bell.wave(0, 20), 1);
        // one whom he covers is called while he is himself at home again
        bell.go(24);
        Check.same("after a night", bell.wave(1, NONE), 1);
    }

    // ---- II: HOURS

    private static void nights() {
        Check.sentence("II: FIRST, if its clock is 0, it was a night: all live their own LIVES again, nobody is away");
        NoonBell bell = Check.of(TWO + "person c ward 3;covers b a;does a t at 23;does a t at 0;does a t at 1;forget 7;");
        bell.watch(2, 1);
        bell.call(0);
        bell.go(22);
        Check.same("away till the night", bell.has(4), 1);
        bell.call(1);
        bell.go(1);
        Check.same("clock 23: away", bell.has(4), 2);
        Check.same("clock 23: LEFT", bell.kept(0, 0), 23);
        Check.same("clock 23: as they were", bell.points(2, 0), 0);
        bell.go(1);
        Check.same("clock 0: nobody is away", bell.has(4), 0);
        Check.same("clock 0: nobody elsewhere", bell.has(6), 0);
        Check.same("clock 0: nothing LEFT", bell.has(7), 1);
        Check.same("clock 0: forgot", bell.points(2, 0), 7);
        Check.same("his own", bell.points(2, 2), 99);
        Check.same("watches on", bell.person(2, 2), 1);
        bell.call(0);
        bell.go(1);
        Check.same("clock 1: away", bell.has(4), 1);
        Check.same("clock 1: b does a's task", bell.has(7), 1);
        bell.go(22);
        Check.same("clock 23", bell.person(1, 1), 0);
        bell.go(1);
        Check.same("the next night", bell.person(1, 1), 1);
        // FIRST all are home, then they forget, last they learn
        bell = at(TWO + "person c ward 3;forget points/2;learn points+10;", 23);
        bell.watch(0, 1);
        bell.call(0);
        bell.teach(0, 1, 50);
        bell.teach(0, 2, 51);
        bell.go(1);
        Check.same("forgets, then learns", bell.points(0, 1), 35);
        Check.same("forgets", bell.points(0, 2), 25);
    }

    private static void forgetting() {
        Check.sentence("II: each one's points of each other one's LIFE become the SUM of forget, 0 .. 99 (below is 0, above 99; as they are without)");
        int[][] dues = {{48, 98, 0}, {49, 99, 0}, {50, 99, 0}, {51, 99, 1}, {52, 99, 2}, {0, 50, 0}, {99, 99, 49}};
        for (int[] due : dues) {
            String city = TWO + "knows a b " + due[0] + ";forget points";
            Check.same("points and 50", at(city + "+50;", 24).points(0, 1), due[1]);
            Check.same("points less 50", at(city + "-50;", 24).points(0, 1), due[2]);
            Check.same("without", at(TWO + "knows a b " + due[0] + ";", 24).points(0, 1), due[0]);
        }
        Check.same("10 to the 6", at(TWO + "forget 9999*9999;", 24).points(0, 1), 99);
        Check.same("-10 to the 6", at(TWO + "knows a b 5;forget 0-9999*9999;", 24).points(0, 1), 0);
        Check.same("his own stay", at(TWO + "forget 0;", 24).points(1, 1), 99);
        Check.same("his own stay", at(TWO + "forget 200;", 24).points(1, 0), 99);
        Check.same("of ten PEOPLE the last one's", at(people(10) + "knows j a 50;forget points-1;", 24).points(9, 0), 49);
        NoonBell bell = at(people(10) + "forget points*2+1;", 72);
        for (int p = 0; p < 10; p++) {
            for (int life = 0; life < 10; life++) Check.same("each one's of each, once a night", bell.points(p, life), p == life ? 99 : 7);
        }
        Check.same("by clock 0, the new day", at(TWO + "forget points+clock+day*3;", 48).points(0, 1), 9);
    }

    private static void learning() {
        Check.sentence("II: their points of it become the SUM of learn, 0 .. 99 (as they are without)");
        int[][] dues = {{48, 98, 0}, {49, 99, 0}, {50, 99, 0}, {51, 99, 1}, {0, 50, 0}, {99, 99, 49}};
        for (int[] due : dues) {
            String[] sums = {"learn points+50;", "learn points-50;", ""};
            for (int k = 0; k < 3; k++) {
                NoonBell bell = Check.of(TWO + "knows a b " + due[0] + ";" + sums[k]);
                bell.watch(0, 1);
                bell.go(1);
                Check.same(due[0] + " by " + sums[k], bell.points(0, 1), k < 2 ? due[k + 1] : due[0]);
                Check.same("nobody else", bell.points(1, 0), 0);
            }
        }
        Check.sentence("II: all who watch a LIFE, are not away, and had no DUTY in this HOUR by the LIFE they live");
        String city = TWO + "person c ward 3;does a t at 5;does b t at 7;covers a b;learn points+1;";
        NoonBell bell = Check.of(city);
        bell.watch(0, 2);
        int[] due = {1, 2, 3, 4, 4, 5, 6, 7, 8};
        for (int k = 0; k < due.length; k++) {
            bell.go(1);
            Check.same("his own DUTY at 5, HOUR " + bell.has(3), bell.points(0, 2), due[k]);
        }
        bell = Check.of(city);
        bell.watch(0, 2);
        bell.call(1);
        int[] lived = {1, 2, 3, 4, 5, 6, 6, 7, 8};
        for (int k = 0; k < lived.length; k++) {
            bell.go(1);
            Check.same("b's DUTY at 7, HOUR " + bell.has(3), bell.points(0, 2), lived[k]);
        }
        bell.call(0);
        bell.go(14);
        Check.same("away till 23", bell.points(0, 2), 8);
        bell.go(1);
        Check.same("at 0 not any more", bell.points(0, 2), 9);
        bell.watch(0, NONE);
        bell.go(1);
        Check.same("watches none", bell.points(0, 2), 9);
    }

    private static void duties() {
        Check.sentence("II: THEN DUTIES of this clock, by LIVES, then as they are told");
        for (int clock : new int[] {0, 1, 22, 23}) {
            NoonBell bell = Check.of(TWO + "does b t at " + clock + ";can not all;");
            int hour = clock == 0 ? 24 : clock;
            bring(bell, hour - 1);
            Check.same("one HOUR ahead of " + clock, bell.has(7), 0);
            bell.go(1);
            Check.same("HOUR", bell.kept(0, 0), hour);
            bell.go(23);
            Check.same("till the next day", bell.has(7), 1);
            bell.go(1);
            Check.same("the next day", bell.kept(1, 0), hour + 24);
        }
        // HOUR 0 has not come: its DUTIES were none
        Check.same("HOUR 0", Check.of(TWO + "does b t at 0;can not all;").has(7), 0);
        // 24 in one HOUR
        StringBuilder text = new StringBuilder(people(3));
        for (int k = 0; k < 8; k++) text.append("task t").append((char) ('a' + k)).append(" hard ").append(k).append(";");
        for (int k = 23; k >= 0; k--) {
            text.append("does ").append((char) ('a' + k % 3)).append(" t").append((char) ('a' + k / 3)).append(" at 9;");
        }
        NoonBell bell = Check.of(text + "can hard<4;");
        bell.go(9);
        Check.same("half of them are DRIED", bell.has(7), 12);
        for (int k = 0; k < 12; k++) Check.same("by LIVES", bell.kept(k, 2), k / 4);
        bell.call(2);
        bell.go(24);
        Check.same("nothing LEFT after a night", bell.has(7), 24);
        bell.call(2);
        bell.undo();
        bell.go(23);
        bell.call(2);
        bell.go(1);
        Check.same("HOUR 57: eight DRIED, eight LEFT", bell.has(7), 40);
        Check.same("the last one is LEFT", bell.kept(39, 1), 0);
        Check.same("ahead of the eight DRIED", bell.kept(31, 1), 1);
    }

    private static void withoutRules() {
        Check.sentence("II: without can all can; NOTICES, if the TEST of notice holds (nobody without)");
        String city = people(4) + "task t hard 99;does a t at 1;covers b a;";
        NoonBell bell = Check.of(city);
        bell.call(0);
        bell.go(1);
        Check.same("done, nobody notices", bell.has(7), 0);
        bell = Check.of(city + "notice all;");
        bell.call(0);
        bell.go(1);
        Check.same("c, d notice: not a, b", bell.has(7), 2);
        Check.same("c", bell.kept(0, 3), 2);
        Check.same("d", bell.kept(1, 3), 3);
        bell = Check.of(city + "notice all;");
        bell.call(0);
        bell.call(3);
        bell.go(1);
        Check.same("not d, who is away", bell.has(7), 1);
        bell = Check.of(city + "notice all;");
        bell.go(1);
        Check.same("his own LIFE: nobody", bell.has(7), 0);
        bell = Check.of(city + "notice all;can not all;");
        bell.call(0);
        bell.go(1);
        Check.same("DRIED: nobody", bell.has(7), 1);
        Check.same("DRIED", bell.kept(0, 1), 1);
        bell = Check.of(city + "notice not all;");
        bell.call(0);
        bell.go(1);
        Check.same("it does not hold", bell.has(7), 0);
        bell = Check.of(people(10) + "task t hard 1;does a t at 1;covers j a;notice all;");
        bell.call(0);
        bell.go(1);
        Check.same("eight of ten", bell.has(7), 8);
        for (int k = 0; k < 8; k++) Check.same("by PEOPLE", bell.kept(k, 3), k + 1);
    }

    private static void lastHour() {
        Check.sentence("II: AN HOUR comes (one more, 9999 at most)");
        String city = TWO + "does a t at 14;does a t at 15;does a t at 16;can not all;";
        NoonBell bell = at(city, 9998);
        Check.same("HOUR", bell.has(3), 9998);
        Check.same("one more", bell.go(1), 9999);
        Check.same("its DUTIES", bell.kept(39, 0), 9999);
        for (int n : new int[] {1, 2, 24, 500}) Twins.refused("go " + n + " at 9999", () -> at(city, 9999), one -> one.go(n), NONE, 2);
        Twins.refused("go 2 at 9998", () -> at(city, 9998), one -> one.go(2), NONE, 2);
        Twins.refused("go 500 at 9500", () -> at(city, 9500), one -> one.go(500), NONE, 2);
        Check.same("go 499 at 9500", at(city, 9500).go(499), 9999);
        Check.same("go 500 at 9499", at(city, 9499).go(500), 9999);
    }

    // ---- II: what is KEPT

    private static void forty() {
        Check.sentence("II: KEPT: the last 40 are told");
        for (int many : new int[] {0, 1, 39, 40, 41, 79, 80, 81, 120, 121, 1000}) {
            NoonBell bell = at(TWO + everyHour("b") + "can own=0;", many);
            int told = Math.min(many, 40);
            Check.same("told of " + many, bell.has(7), told);
            for (int k = 0; k < told; k++) Check.same("HOUR of the " + k + "-th of " + many, bell.kept(k, 0), many - told + k + 1);
            Check.same("behind the last one of " + many, bell.kept(told, 0), NONE);
            Check.same("ahead of the oldest of " + many, bell.kept(-1, 0), NONE);
        }
        // what was pushed out is told again when the ACT is undone
        NoonBell bell = at(TWO + everyHour("b") + "can own=0;", 41);
        bell.go(100);
        bell.undo();
        Check.same("the oldest", bell.kept(0, 0), 2);
        Check.same("the latest", bell.kept(39, 0), 41);
    }

    private static void whatIsKept() {
        Check.sentence("II: HOUR, which, LIFE, who (NONE of what was LEFT; who lived it; who noticed)");
        NoonBell bell = Check.of(people(4) + "task t hard 1;does a t at 1;does b t at 1;does c t at 1;does d t at 1;covers b a;covers d c;"
                + "can clock=1 and own=0 and points=99 or own=0 and day=0;knows b a 99;knows d c 0;notice same=0;");
        bell.call(0);
        bell.go(1);
        int[][] due = {{1, 2, 0, 2}, {1, 2, 0, 3}, {1, 0, 1, NONE}, {1, 1, 2, 2}, {1, 1, 3, 3}};
        Check.same("KEPT", bell.has(7), due.length);
        for (int k = 0; k < due.length; k++) {
            for (int what = 0; what < 4; what++) Check.same("kept " + k + " " + what, bell.kept(k, what), due[k][what]);
        }
    }

    // ---- II: ACTS and DRAWS

    private static void twentyUndone() {
        Check.sentence("II: The last 20 can be undone");
        for (int acts : new int[] {0, 1, 19, 20, 21, 40, 41}) {
            NoonBell bell = Check.of(TWO);
            for (int k = 1; k <= acts; k++) bell.go(1);
            int undone = Math.min(acts, 20);
            Check.same("ACTS of " + acts, bell.has(8), undone);
            for (int k = 1; k <= undone; k++) {
                Check.yes("undo", bell.undo());
                Check.same("HOUR", bell.has(3), acts - k);
                Check.same("ACTS left", bell.has(8), undone - k);
            }
            Check.no("one beyond", bell.undo());
            Check.same("refused", bell.status(4), 1);
            Check.same("HOUR stays", bell.has(3), acts - undone);
        }
        // 25, less 20, and three more: three can be undone
        NoonBell bell = at(TWO, 0);
        for (int k = 0; k < 25; k++) bell.go(1);
        for (int k = 0; k < 20; k++) bell.undo();
        for (int k = 0; k < 3; k++) bell.go(10);
        Check.same("ACTS", bell.has(8), 3);
        for (int k = 0; k < 3; k++) Check.yes("undo", bell.undo());
        Check.same("HOUR", bell.has(3), 5);
        Check.no("one beyond", bell.undo());
        Check.sentence("25: refused (4), when none can be");
        Twins.refused("undo of none", () -> Check.of(Twins.CITY), one -> one.undo() ? 1 : 0, 0, 4);
        Twins.refused("undo behind 20", () -> {
            NoonBell one = at(TWO, 0);
            for (int k = 0; k < 21; k++) one.go(1);
            for (int k = 0; k < 20; k++) one.undo();
            return one;
        }, one -> one.undo() ? 1 : 0, 0, 4);
    }

    private static void actsAlone() {
        Check.sentence("II: ACTS: HOURS come; a CALL; one watches, or none; points are other ones; BELLS");
        NoonBell bell = Check.of(TWO);
        bell.go(1);
        Check.same("go", bell.has(8), 1);
        bell.call(0);
        Check.same("call", bell.has(8), 2);
        bell.watch(0, 1);
        Check.same("watch", bell.has(8), 3);
        bell.watch(0, NONE);
        Check.same("watch none", bell.has(8), 4);
        bell.teach(0, 1, 5);
        Check.same("teach", bell.has(8), 5);
        bell.bells(3);
        Check.same("bells of three DAYS", bell.has(8), 6);
        bell.seed(9);
        bell.image();
        Twins.slips(bell, 0, 1, 0, 1);
        Check.ask(bell, 0, "total 1");
        bell.who();
        bell.wave(1, NONE);
        bell.would(1, 0);
        bell.first(0);
        bell.study(0, 1);
        bell.change(0);
        bell.odds(0, 1, 4);
        Check.same("no others", bell.has(8), 6);
    }

    /** Who are called at noon: each one's DUTY at 13 is LEFT then, and nobody covers. */
    private static NoonBell ringing(int people) {
        StringBuilder text = new StringBuilder(people(people)).append("task t hard 1;");
        for (int k = 0; k < people; k++) text.append("does ").append((char) ('a' + k)).append(" t at 13;");
        return Check.of(text.toString());
    }

    private static long drawn(long x) {
        return (1103515245L * x + 12345L) % (1L << 31);
    }

    private static void draws() {
        Check.sentence("II: A DRAW of m: x becomes (1103515245 x + 12345) mod 2 to the 31; floor(x / 64) mod m");
        for (int m : new int[] {1, 2, 3, 9, 10}) {
            for (int seed : new int[] {0, 1, 2, 63, 64, 1 << 30, Integer.MAX_VALUE - 1, Integer.MAX_VALUE}) {
                NoonBell bell = ringing(m);
                Check.yes("seed", bell.seed(seed));
                bell.bells(20);
                long x = seed;
                for (int day = 0; day < 20; day++) {
                    x = drawn(x);
                    Check.same("of " + m + " by " + seed, bell.kept(day, 2), x / 64 % m);
                }
            }
        }
        // 12345 / 64 = 192; the seed is 1 at first: 1103527590 / 64 = 17242618
        NoonBell bell = ringing(10);
        bell.bells(1);
        Check.same("by 1", bell.kept(0, 2), 8);
        bell.undo();
        bell.seed(0);
        bell.bells(1);
        Check.same("by 0", bell.kept(0, 2), 2);
        // 1103515245 * 2147483647 + 12345 is 1043980748 behind the 31 bits: / 64 = 16312199
        bell.undo();
        bell.seed(Integer.MAX_VALUE);
        bell.bells(1);
        Check.same("by the greatest", bell.kept(0, 2), 9);
    }

    private static void noDraw() {
        Check.sentence("II: that one is called, if he is not away (no DRAW without PEOPLE)");
        NoonBell bell = new NoonBell();
        bell.seed(5);
        Check.same("without PEOPLE", bell.bells(20), 480);
        Check.city(bell, people(10) + "task t hard 1;" + everyTen());
        bell.bells(1);
        Check.same("the seed stayed", bell.kept(0, 2), drawn(5) / 64 % 10);
        // a DRAW of one alone is a DRAW
        bell = Check.of(people(1));
        bell.seed(5);
        bell.bells(1);
        Check.city(bell, people(10) + "task t hard 1;" + everyTen());
        bell.bells(1);
        Check.same("the seed went on", bell.kept(0, 2), drawn(drawn(5)) / 64 % 10);
        // one who is away is drawn, but not called
        bell = Check.of(people(10) + "task t hard 1;" + everyTen() + covers(10, true));
        bell.seed(5);
        int first = (int) (drawn(5) / 64 % 10);
        bell.call(first);
        bell.bells(1);
        Check.same("LEFT once", bell.has(7), 1);
        Check.same("whose coverers went on", bell.kept(0, 2), (first + 1) % 10);
        bell.bells(1);
        long next = drawn(drawn(5)) / 64 % 10;
        Check.same("the second one is called", bell.kept(1, 2), (next + 1) % 10);
    }

    private static String everyTen() {
        StringBuilder text = new StringBuilder();
        for (int k = 0; k < 10; k++) text.append("does ").append((char) ('a' + k)).append(" t at 13;");
        return text.toString();
    }

    private static void noons() {
        Check.sentence("II: n DAYS: HOURS come (one at least) till the clock is 12, ... then HOURS come till the clock is 0");
        for (int clock = 0; clock < 24; clock++) {
            NoonBell bell = Check.of("person a ward 1;task t hard 1;does a t at 12;does a t at 13;does a t at 23;does a t at 0;");
            bell.go(24 + clock);
            int noon = clock < 12 ? 36 : 60;
            Check.same("one DAY from clock " + clock, bell.bells(1), noon + 12);
            Check.same("LEFT", bell.has(7), 2);
            Check.same("the CALL is behind 12", bell.kept(0, 0), noon + 1);
            Check.same("till the night", bell.kept(1, 0), noon + 11);
            Check.same("two DAYS more", bell.bells(2), noon + 60);
        }
        Check.same("from HOUR 0", Check.of(TWO).bells(1), 24);
    }

    private static void bellsAtTheEnd() {
        Check.sentence("24: refused (2), when it can't be (an HOUR above 9999, too)");
        String city = Twins.CITY;
        Check.same("9984 is the last clock 0", at(city, 9960).bells(1), 9984);
        Check.same("from clock 11", at(city, 9971).bells(1), 9984);
        Check.same("twenty DAYS", at(city, 9504).bells(20), 9984);
        int[][] beyond = {{9972, 1}, {9973, 1}, {9960, 2}, {9984, 1}, {9985, 1}, {9996, 1}, {9999, 1}, {9999, 20}, {9505 + 11, 20}, {9505 + 23, 20}};
        for (int[] one : beyond) {
            Twins.refused("bells " + one[1] + " at " + one[0], () -> at(city, one[0]), bell -> bell.bells(one[1]), NONE, 2);
        }
        Check.same("from 9515, clock 11", at(city, 9515).bells(20), 9984);
    }

    // ---- III: what lies AHEAD

    private static void seventyTwo() {
        Check.sentence("III: AHEAD are HOURS as they come from now on (0: now), 72 at most");
        for (int now : new int[] {0, 1, 5, 23}) {
            for (int far : new int[] {1, 71, 72, 73}) {
                int hour = now + far;
                String city = TWO + "does b t at " + hour % 24 + ";can day<" + hour / 24 + ";";
                NoonBell bell = at(city, now);
                Check.same(far + " from " + now, bell.first(0), far <= 72 ? hour : NONE);
                Check.same("which", bell.first(1), far <= 72 ? 1 : NONE);
                Check.same("LIFE", bell.first(2), far <= 72 ? 1 : NONE);
                Check.same("HOUR stays", bell.has(3), now);
            }
        }
        Check.sentence("14: the first TASK that is LEFT or DRIED AHEAD (in an HOUR that comes)");
        String now = TWO + "does b t at 3;can day=1;";
        Check.same("not now", at(now, 3).first(0), 51);
        Check.same("the next HOUR", at(now, 2).first(0), 3);
        Check.same("none", Check.of(TWO + "does b t at 3;").first(0), NONE);
        NoonBell bell = Check.of(TWO + "does a t at 4;does b t at 4;can own=0;covers b a;");
        bell.call(0);
        Check.same("a's is done by b, b's LEFT", bell.first(1), 0);
        Check.same("LIFE", bell.first(2), 1);
        bell.undo();
        Check.same("a's is DRIED, of one HOUR the first", bell.first(2), 0);
        Check.same("DRIED", bell.first(1), 1);
    }

    private static void noneAbove() {
        Check.sentence("III: AHEAD: none above 9999");
        String city = TWO + "does b t at 15;does b t at 16;can day<416;";
        Check.same("9999 is AHEAD", at(city, 9998).first(0), 9999);
        Check.same("9999 is AHEAD", at(city, 9928).first(0), 9999);
        Check.same("none is", at(city, 9999).first(0), NONE);
        Check.same("10000 is not", at(TWO + "does b t at 16;can day<416;", 9998).first(0), NONE);
        Check.same("would till 9999", at(city, 9998).would(0, 1), 1);
        Check.same("would at 9999", at(city, 9999).would(0, 1), 0);
        Check.same("would LEFT till 9999", at(city, 9984).would(1, 0), 1);
        for (int hour : new int[] {9951, 9952, 9953, 9998, 9999}) {
            int many = Math.min(48, 10000 - hour);
            Check.same("often from " + hour, Check.ask(at(city, hour), 0, "often all"), many);
            Check.same("last from " + hour, Check.ask(at(city, hour), 0, "last all"), Math.min(hour + 47, 9999));
            Check.same("most from " + hour, Check.ask(at(city, hour), 0, "most hour"), Math.min(hour + 47, 9999));
        }
    }

    private static void clocksAbove() {
        Check.sentence("III: WOULD: in the HOURS that come with a clock above the present one (up to 23; learning counts)");
        String city = TWO + everyHour("a") + "can not all;";
        for (int now : new int[] {0, 1, 11, 22, 23, 24, 25, 47}) {
            NoonBell bell = at(city, now);
            Check.same("LEFT from " + now, bell.would(0, 0), 23 - now % 24);
            Check.same("DRIED from " + now, bell.would(1, 1), 23 - now % 24);
            Check.same("the other one", bell.would(0, 1), 0);
        }
        Check.same("the present one", at(TWO + "does a t at 5;", 5).would(0, 0), 0);
        Check.same("one above", at(TWO + "does a t at 6;", 5).would(0, 0), 1);
        Check.same("23", at(TWO + "does a t at 23;", 22).would(0, 0), 1);
        Check.same("0", at(TWO + "does a t at 0;", 22).would(0, 0), 0);
        NoonBell bell = Check.of(TWO + "covers b a;does a t at 10;learn points+1;can points>8;");
        bell.watch(1, 0);
        Check.same("nine HOURS of learning", bell.would(0, 1), 0);
        bell.go(1);
        bell.teach(1, 0, 0);
        Check.same("eight", bell.would(0, 1), 1);
    }

    private static void bestOfLikeOnes() {
        Check.sentence("III: BEST: of all but its owner; of like ones the first");
        NoonBell bell = Check.of(people(4) + "task t hard 5;does b t at 1;does b t at 2;can points>hard+clock or own=1;");
        Check.same("none can: the first one", bell.best(1, 0), 0);
        Check.same("none", bell.best(1, 1), 0);
        Check.same("his own: not he", bell.best(0, 0), 1);
        Check.same("no DUTIES", bell.best(0, 1), 0);
        bell.teach(3, 1, 7);
        Check.same("one DUTY", bell.best(1, 0), 3);
        bell.teach(2, 1, 7);
        Check.same("like ones", bell.best(1, 0), 2);
        bell.teach(3, 1, 8);
        Check.same("both DUTIES", bell.best(1, 0), 3);
        Check.same("both DUTIES", bell.best(1, 1), 2);
        Check.sentence("15: NONE without another one");
        Check.same("who", Check.of(people(1)).best(0, 0), NONE);
        Check.same("how many", Check.of(people(1)).best(0, 1), NONE);
        Check.same("two", Check.of(people(2)).best(0, 0), 1);
        Check.same("two", Check.of(people(2)).best(1, 0), 0);
        Check.same("ten", Check.of(people(10)).best(9, 0), 0);
    }

    private static void ninetyNineHours() {
        Check.sentence("III: STUDY: the fewest HOURS (99 at most); 16: NONE when 99 are not enough");
        for (int[] due : new int[][] {{0, 99}, {1, 98}, {98, 1}, {99, 0}}) {
            NoonBell bell = Check.of(TWO + "does b t at 1;learn points+1;can points=99;knows a b " + due[0] + ";");
            Check.same("from " + due[0], bell.study(0, 1), due[1]);
        }
        Check.same("never", Check.of(TWO + "does b t at 1;learn points+1;can points>99;").study(0, 1), NONE);
        Check.same("without DUTIES", Check.of(TWO + "learn points+1;can points>99;").study(0, 1), 0);
        // 7 more in each HOUR, round and round 100: each number comes, the last one in 99 HOURS
        String round = TWO + "does b t at 1;learn points+7-(points+7)/100*100;can points=";
        Check.same("99 steps of 7", Check.of(round + "93;").study(0, 1), 99);
        Check.same("0 steps, not 100", Check.of(round + "0;").study(0, 1), 0);
        Check.same("98 steps of 7", Check.of(round + "86;").study(0, 1), 98);
        Check.same("from 93 to 86", Check.of(round + "86;knows a b 93;").study(0, 1), 99);
        Check.same("from 93 to 93", Check.of(round + "93;knows a b 93;").study(0, 1), 0);
        Check.same("two steps, to and fro", Check.of(TWO + "does b t at 1;learn 1-points;can points=2;").study(0, 1), NONE);
        Check.same("without learn they stay as they are", Check.of(TWO + "does b t at 1;can points<5;knows a b 9;").study(0, 1), NONE);
        Check.same("without learn they stay as they are", Check.of(TWO + "does b t at 1;can points=9;knows a b 9;").study(0, 1), 0);
        Check.sentence("III: STUDY: clock as it is now in each, this day, points from now on");
        String now = TWO + "does b t at 1;learn points+clock;can points>19 and day=2;";
        Check.same("clock 10", at(now, 58).study(0, 1), 2);
        Check.same("clock 9", at(now, 57).study(0, 1), 3);
        Check.same("clock 0", at(now, 48).study(0, 1), NONE);
        Check.same("day 1", at(now, 47).study(0, 1), NONE);
        Check.same("another day", at(now, 72 + 10).study(0, 1), NONE);
        String each = TWO + "does b t at 0;does b t at 23;learn points+1;can points>clock;";
        Check.same("each DUTY at its own clock", at(each, 5).study(0, 1), 24);
        Check.same("each DUTY at its own clock", at(each + "knows a b 23;", 5).study(0, 1), 1);
        Check.same("each DUTY at its own clock", at(each + "knows a b 24;", 5).study(0, 1), 0);
    }

    private static void changes() {
        Check.sentence("III: CHANGE: each LIFE is lived by another one; 17: NONE with fewer than two PEOPLE");
        for (int n : new int[] {0, 1}) {
            for (int k = NONE; k < 2; k++) Check.same(n + " PEOPLE", Check.of(people(n)).change(k), NONE);
        }
        int[][] due = {{}, {}, {1, 0}, {1, 2, 0}, {1, 0, 3, 2}, {1, 0, 3, 4, 2}};
        for (int n = 2; n <= 5; n++) {
            NoonBell bell = Check.of(people(n) + "task t hard 1;does a t at 1;can own=1;");
            Check.same("DRIED of " + n, bell.change(NONE), 1);
            for (int k = 0; k < n; k++) Check.same("of like ones the first, " + n, bell.change(k), due[n][k]);
        }
        NoonBell bell = Check.of(people(10));
        for (int k = 0; k < 10; k++) Check.same("ten", bell.change(k), k % 2 == 0 ? k + 1 : k - 1);
        Check.same("ten", bell.change(NONE), 0);
        // each can do the LIFE of the one behind him alone: a ring of ten
        StringBuilder text = new StringBuilder(people(10)).append("task t hard 50;can points>hard;");
        for (int k = 0; k < 10; k++) text.append("does ").append((char) ('a' + k)).append(" t at ").append(k).append(";");
        for (int k = 0; k < 10; k++) text.append("knows ").append((char) ('a' + (k + 9) % 10)).append(' ').append((char) ('a' + k)).append(" 51;");
        bell = Check.of(text.toString());
        Check.same("none DRIED", bell.change(NONE), 0);
        for (int k = 0; k < 10; k++) Check.same("who lives " + k, bell.change(k), (k + 9) % 10);
        bell.teach(9, 0, 50);
        Check.same("one DRIED", bell.change(NONE), 1);
    }

    private static void rings() {
        Check.sentence("III: A RING is some PEOPLE who cover each other round; 18: 0 of none");
        Check.same("one", Check.of(people(1)).ring(0), 0);
        for (int n : new int[] {2, 3, 9, 10}) {
            for (int p = 0; p < n; p++) {
                Check.same("ring of " + n, Check.of(people(n) + covers(n, true)).ring(p), n);
                Check.same("no ring of " + n, Check.of(people(n) + covers(n, false)).ring(p), 0);
            }
        }
        NoonBell bell = Check.of(people(10) + covers(5, true) + "covers f g;covers g f;covers h i;covers i j;");
        int[] due = {5, 5, 5, 5, 5, 2, 2, 0, 0, 0};
        for (int p = 0; p < 10; p++) Check.same("ring " + p, bell.ring(p), due[p]);
    }

    private static void oddsOfCalls() {
        Check.sentence("III: ODDS: by some CALL of n (each a DRAW of all PEOPLE, from when all live their own LIVES, each on its own); 19: floor");
        int[][] due = {{0, 500, 750, 875, 937}, {0, 333, 555, 703, 802}, {0, 100, 190, 271, 343}};
        int[] people = {2, 3, 10};
        for (int k = 0; k < 3; k++) {
            NoonBell bell = Check.of(people(people[k]) + "covers a b;");
            for (int n = 0; n <= 4; n++) {
                Check.same("one of " + people[k] + " by " + n, bell.odds(0, 1, n), due[k][n]);
                Check.same("never by " + n, bell.odds(1, 0, n), 0);
            }
            bell.call(0);
            bell.call(1);
            Check.same("from when all are home", bell.odds(0, 1, 1), due[k][1]);
        }
        NoonBell bell = Check.of(people(10) + covers(10, true));
        Check.same("nine of ten", bell.odds(0, 1, 1), 900);
        Check.same("9999 of 10000", bell.odds(0, 1, 4), 999);
        Check.same("not two LIVES on", bell.odds(0, 2, 4), 0);
    }

    private static void whoItWas() {
        Check.sentence("III: SLIPS: rows of clock, TASK, whether it was done; WHO: all PEOPLE by whose points of now (today) they are just so");
        NoonBell bell = Check.of(people(10) + "task t hard 0;task u hard 99;can clock>5 and day=0 and points<hard+99 or own=1;");
        Twins.slips(bell, 3, 6, 0, 1);
        Check.same("all ten", bell.who(), 1023);
        Twins.slips(bell, 3, 5, 0, 1);
        Check.same("the owner", bell.who(), 8);
        Twins.slips(bell, 3, 5, 0, 0);
        Check.same("all but the owner", bell.who(), 1015);
        Twins.slips(bell, 9, 0, 0, 1);
        Check.same("the last one", bell.who(), 512);
        Twins.slips(bell, 9, 23, 1, 0);
        Check.same("none", bell.who(), 0);
        Twins.slips(bell, 3, 6, 0, 1, 5, 0, 0);
        Check.same("each row", bell.who(), 1015);
        bell.teach(4, 3, 98);
        bell.teach(5, 3, 99);
        Twins.slips(bell, 3, 6, 0, 1);
        Check.same("99 are not below hard 0 and 99", bell.who(), 1023 - 32);
        Twins.slips(bell, 3, 6, 1, 1);
        Check.same("but below hard 99 and 99: by its TASK", bell.who(), 1023);
        bell.teach(4, 3, 0);
        bell.teach(5, 3, 0);
        Twins.slips(bell, 3, 6, 0, 1, 5, 0, 0);
        bell.teach(4, 3, 99);
        Check.same("by the points of now", bell.who(), 1015 - 16);
        bell.go(24);
        Check.same("today", bell.who(), 0);
    }

    // ---- IV: QUESTIONS

    private static void fortyEight() {
        Check.sentence("IV: of the 48 HOURS from now on; the first, the last HOUR in which it holds: its number, not how many AHEAD");
        for (int now : new int[] {0, 1, 100}) {
            String[] asked = {"first all", "last all", "often all", "total 1", "least hour", "most hour", "often hour>0", "total hour"};
            long[] due = {now, now + 47, 48, 48, now, now + 47, now == 0 ? 47 : 48, 48 * now + 47 * 24};
            for (int k = 0; k < asked.length; k++) Check.same(asked[k] + " from " + now, Check.ask(at(TWO, now), 0, asked[k]), due[k]);
            Check.same("47 on", Check.ask(at(TWO, now), 0, "first hour=" + (now + 47)), now + 47);
            Check.same("48 on", Check.ask(at(TWO, now), 0, "first hour=" + (now + 48)), NONE);
            Check.same("48 on", Check.ask(at(TWO, now), 0, "last hour>" + (now + 47)), NONE);
            Check.same("none", Check.ask(at(TWO, now), 0, "often hour>" + (now + 47)), 0);
        }
        Check.same("HOUR 0 as a number", Check.ask(Check.of(TWO), 0, "last hour=0"), 0);
        NoonBell bell = at(TWO + "can clock=9;", 30);
        bell.could(0, 0, 0, 9);
        Check.same("the clock of now, 0 AHEAD", Check.ask(bell, 0, "first clock=6"), 30);
    }

    private static void totals() {
        Check.sentence("IV: total SUM (of all together, not held), most SUM, least SUM (the greatest, the least of all)");
        NoonBell bell = Check.of(TWO);
        String[] asked = {"total 9999*9999", "total 0-9999*9999", "most 9999*9999", "least 9999*9999", "most 0-9999*9999",
            "least 0-9999*9999", "total 0", "most 0-1-hour", "least 1+hour", "total 0-1", "most 5-hour", "least 5-hour", "most hour-hour"};
        long[] due = {48000000, -48000000, 1000000, 1000000, -1000000, -1000000, 0, -1, 1, -48, 5, -42, 0};
        for (int k = 0; k < asked.length; k++) Check.same(asked[k], Check.ask(bell, 0, asked[k]), due[k]);
    }

    private static void fiveHundredTwelve() {
        Check.sentence("An object is used for at most 512 calls after it has been made");
        NoonBell bell = new NoonBell();
        for (int k = 1; k < 512; k++) Check.same("call " + k, bell.go(1), k);
        Check.yes("the 512th one", bell.undo());
        bell = new NoonBell();
        for (int k = 1; k < 512; k++) bell.go(0);
        Check.same("the 512th one", bell.status(2), 511);
    }

    private static void whereOneIs() {
        Check.sentence("IV: the number of the LIFE he lives, 99 when he is away");
        NoonBell bell = Check.of(people(3) + "covers b a;");
        bell.call(0);
        Check.same("a is away", Check.ask(bell, 0, "most life"), 99);
        Check.same("till the night", Check.ask(bell, 0, "last life=99"), 23);
        Check.same("then at home", Check.ask(bell, 0, "first life=0"), 24);
        Check.same("b lives a's", Check.ask(bell, 1, "last life=0"), 23);
        Check.same("c his own", Check.ask(bell, 2, "often life=2"), 48);
        Check.sentence("IV: his points of the LIFE of that number, 0 of numbers that there are not");
        bell = Check.of(people(3) + "knows b a 7;knows b c 8;");
        String[] parts = {"0", "1", "2", "3", "9", "10", "11", "99", "9999", "(0-1)", "(0-9999*9999)", "(9999*9999)", "points 2", "life"};
        long[] due = {7, 99, 8, 0, 0, 0, 0, 0, 0, 0, 0, 0, 0, 99};
        for (int k = 0; k < parts.length; k++) Check.same("points " + parts[k], Check.ask(bell, 1, "most points " + parts[k]), due[k]);
        StringBuilder text = new StringBuilder(people(10));
        bell = Check.of(text + "knows a j 55;");
        Check.same("ten", Check.ask(bell, 0, "most points 9"), 55);
        Check.same("ten", Check.ask(bell, 0, "most points 10"), 0);
        bell.call(0);
        Check.same("away, of LIFE 99", Check.ask(bell, 0, "least points life"), 0);
        Check.city(bell, people(2) + "knows a b 5;");
        Check.same("of a LIFE of the CITY ahead", Check.ask(bell, 0, "most points 9"), 0);
    }

    private static void driesOfNow() {
        Check.sentence("IV: how many TASKS he DRIES in it, 0 of the one that is now; all as it is behind that HOUR");
        String city = TWO + "task u hard 1;does a t at 3;does a u at 3;does a t at 4;does b t at 3;can not all;";
        NoonBell bell = Check.of(city);
        Check.same("two at 3", Check.ask(bell, 0, "most dries"), 2);
        Check.same("first", Check.ask(bell, 0, "first dries=2"), 3);
        Check.same("b's", Check.ask(bell, 1, "most dries"), 1);
        Check.same("six in 48 HOURS", Check.ask(bell, 0, "total dries"), 6);
        bell.go(3);
        Check.same("0 of now", Check.ask(bell, 0, "first dries=2"), 27);
        Check.same("0 of now", Check.ask(bell, 0, "first dries=0"), 3);
        Check.same("four", Check.ask(bell, 0, "total dries"), 4);
        bell.go(1);
        Check.same("0 of now, asked again", Check.ask(bell, 0, "least dries"), 0);
        bell = Check.of(TWO + "does a t at 3;covers b a;can not all;");
        bell.call(0);
        Check.same("who lives it DRIES it", Check.ask(bell, 1, "first dries=1"), 3);
        Check.same("once: by night he is home", Check.ask(bell, 1, "total dries"), 1);
        Check.same("who is away does not", Check.ask(bell, 0, "first dries=1"), 27);
        bell.call(1);
        Check.same("LEFT is not DRIED", Check.ask(bell, 1, "total dries"), 0);
        bell = Check.of(TWO + "learn points+1;forget points-5;");
        bell.watch(0, 1);
        Check.same("now", Check.ask(bell, 0, "least points 1"), 0);
        Check.same("behind HOUR 1", Check.ask(bell, 0, "first points 1=1"), 1);
        Check.same("behind HOUR 23", Check.ask(bell, 0, "first points 1=23"), 23);
        Check.same("behind the night", Check.ask(bell, 0, "last points 1=19"), 24);
        Check.sentence("IV: a QUESTION alone changes nothing");
        for (String text : new String[] {"total dries", "first points 1=99", "often life=99", "last all"}) {
            long answer = Check.ask(Twins.rich(), 3, text);
            Twins.refusedWithTape("ask " + text, one -> Check.ask(one, 3, text), answer, NONE);
        }
    }

    public static void main(String[] args) {
        held();
        divided();
        compared();
        facts();
        atFirst();
        waves();
        nights();
        forgetting();
        learning();
        duties();
        withoutRules();
        lastHour();
        forty();
        whatIsKept();
        twentyUndone();
        actsAlone();
        draws();
        noDraw();
        noons();
        bellsAtTheEnd();
        seventyTwo();
        noneAbove();
        clocksAbove();
        bestOfLikeOnes();
        ninetyNineHours();
        changes();
        rings();
        oddsOfCalls();
        whoItWas();
        fortyEight();
        totals();
        fiveHundredTwelve();
        whereOneIs();
        driesOfNow();
        Check.end("StateEdgeTest");
    }
}
