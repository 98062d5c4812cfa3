/** Promises 1 to 33, each by ordinary inputs, its edges and wrong inputs. */
final class PromiseTest {
    private static final int NONE = NoonBell.NONE;
    private static final String ANN = "person ann ward 1; person bob ward 1; person cid ward 2; person dan ward 2;"
            + "task bake hard 30; task pray hard 60;"
            + "does ann bake at 6; does ann pray at 20; does bob pray at 13; does cid bake at 6; does cid bake at 15;"
            + "covers bob ann; covers cid bob; covers dan cid; knows bob ann 40; knows cid bob 70; knows dan cid 10;"
            + "learn points+10+same*5; forget points-points/10; can points>hard or own=1;"
            + "notice theirs>points and same=1;";
    // round: a is covered by b, b by c, c by a; each can do his own DUTY alone
    private static final String ROUND = "person a ward 1;person b ward 1;person c ward 1;task t hard 5;"
            + "does a t at 1;does b t at 1;does c t at 1;covers b a;covers c b;covers a c;can own=1;notice all;";
    private static final String TWO = "person a ward 1;person b ward 2;task t hard 9;";

    private PromiseTest() {
    }

    private static void newObject() {
        NoonBell bell = new NoonBell();
        for (int what = -1; what <= 9; what++) {
            Check.same("has " + what, bell.has(what), what < 0 || what > 8 ? NONE : 0);
        }
        Check.same("fault", bell.fault(0), 0);
        Check.same("place", bell.fault(1), NONE);
        Check.same("who", bell.who(), NONE);
        Check.same("octet", bell.octet(0), NONE);
        Check.same("image", bell.image(), 3);
        Check.same("city", bell.city(), 0);
        for (int what = 0; what < 6; what++) Check.same("status " + what, bell.status(what), 0);
    }

    /** What the seed x becomes by one DRAW. */
    private static long drawn(long x) {
        return (1103515245L * x + 12345L) % (1L << 31);
    }

    private static void feedAndEnd() {
        NoonBell bell = new NoonBell();
        Check.yes("end 0 of 0", bell.end(0));
        Check.no("end 1 of 0", bell.end(1));
        Check.no("end below 0", bell.end(-1));
        for (int k = 1; k <= 80; k++) Check.same("feed " + k, bell.feed(1, 2, 3, 4, 5), 20 * k);
        Check.same("feed too much", bell.feed(1, 2, 3, 4, 5), NONE);
        Check.same("refused", bell.status(0), 3);
        Check.no("end behind the tape", bell.end(1601));
        Check.yes("end of all", bell.end(1600));
        Check.yes("end 1581", bell.end(1581));
        Check.same("feed at 1581", bell.feed(1, 2, 3, 4, 5), NONE);
        Check.yes("end 1580", bell.end(1580));
        Check.same("feed at 1580", bell.feed(1, 2, 3, 4, 5), 1600);
        Check.no("end too low", bell.end(Integer.MIN_VALUE));
        Check.same("refused", bell.status(0), 6);
        Check.yes("end 0", bell.end(0));
        Check.no("nothing is there any more", bell.end(1));
        // an image of nobody at HOUR 0x2602: the highest byte of each number is first
        Check.same("feed", bell.feed(0x26020000, -1, -1, -1, -1), 20);
        Check.yes("end 2", bell.end(2));
        Check.feed(bell, 2, ((197 * 3 + 0x26) % 251 * 3 + 2) % 251);
        Check.yes("on", bell.on());
        Check.same("HOUR", bell.has(3), 0x2602);
        Check.same("bytes above 127", bell.feed(0x20ff2020, 0, 0, 0, 0), 20);
        bell.city();
        Check.same("place of byte 255", bell.fault(1), 1);
    }

    private static void cityAndFault() {
        NoonBell bell = Check.of(ANN);
        Check.same("fault", bell.fault(0), 0);
        Check.same("place", bell.fault(1), NONE);
        bell.seed(77);
        bell.call(0);
        bell.go(30);
        Check.feed(bell, 0, 6, 0, 1);
        bell.slips(0);
        Check.same("a city with a fault", Check.city(bell, "person x ward 3;x"), NONE);
        Check.no("the tape goes", bell.end(1));
        Check.same("fault", bell.fault(0), 1);
        Check.same("place", bell.fault(1), 16);
        Check.same("fault of another what", bell.fault(2), NONE);
        Check.same("fault of another what", bell.fault(-1), NONE);
        Check.same("refused", bell.status(1), 1);
        Check.same("all stays: PEOPLE", bell.has(0), 4);
        Check.same("all stays: HOUR", bell.has(3), 30);
        Check.same("all stays: ACTS", bell.has(8), 2);
        Check.yes("all stays: KEPT", bell.has(7) > 0);
        Check.yes("all stays: SLIPS", bell.who() != NONE);
        Check.same("a city", Check.city(bell, TWO), 3);
        Check.no("the tape goes", bell.end(1));
        Check.same("fault", bell.fault(0), 0);
        Check.same("PEOPLE", bell.has(0), 2);
        Check.same("HOUR", bell.has(3), 0);
        Check.same("KEPT", bell.has(7), 0);
        Check.same("ACTS", bell.has(8), 0);
        Check.no("undo", bell.undo());
        Check.same("SLIPS", bell.who(), NONE);
        Check.same("points", bell.points(0, 1), 0);
        Check.same("refused", bell.status(1), 1);
        long x = drawn(77);
        bell.bells(1);
        Check.same("the seed stays", bell.has(3), 24);
        bell.undo();
        bell.seed(77);
        int called = (int) (x / 64 % 2);
        Check.city(bell, TWO + "does a t at 13;does b t at 13;can all;");
        bell.bells(1);
        Check.same("who was called", bell.kept(0, 2), called);
        nothingOfOthers();
    }

    /** A CITY has nothing of those ahead of it. */
    private static void nothingOfOthers() {
        NoonBell bell = new NoonBell();
        for (int k = 0; k < 4; k++) Check.same("city", Check.city(bell, ANN + "covers ann dan;"), 22);
        String text = "person x ward 5;person y ward 6;task q hard 2;does y q at 23;covers y x;";
        Check.same("city", Check.city(bell, text), 5);
        int[] has = {2, 1, 1};
        for (int k = 0; k < 3; k++) Check.same("has " + k, bell.has(k), has[k]);
        int[][] due = {{5, 0, NONE, NONE, 1, 0, 0}, {6, 1, NONE, 0, NONE, 1, 1}};
        for (int p = 0; p < 2; p++) {
            for (int what = 0; what < 7; what++) Check.same("person " + p + " " + what, bell.person(p, what), due[p][what]);
        }
        Check.same("points", bell.points(1, 0), 0);
        Check.same("without can", bell.could(0, 1, 0, 0), 1);
        bell.watch(0, 1);
        bell.teach(1, 0, 50);
        bell.call(0);
        bell.go(22);
        Check.same("without notice and learn", bell.has(7) + bell.points(0, 1), 0);
        bell.go(2);
        Check.same("without forget", bell.points(1, 0), 50);
        Check.same("city", Check.city(bell, text + "can hard=2 and clock=23;"), 6);
        Check.same("the new hard", bell.could(0, 1, 0, 23), 1);
        Check.same("the new DUTY", bell.best(1, 1), 1);
    }

    private static void has() {
        NoonBell bell = Check.of(ANN);
        int[] due = {4, 2, 5, 0, 0, 0, 0, 0, 0};
        for (int k = 0; k < due.length; k++) Check.same("has " + k, bell.has(k), due[k]);
        bell.call(0);
        Check.same("away", bell.has(4), 1);
        Check.same("lived by nobody", bell.has(5), 1);
        Check.same("elsewhere", bell.has(6), 3);
        bell.call(1);
        Check.same("away", bell.has(4), 2);
        Check.same("lived by nobody", bell.has(5), 2);
        Check.same("elsewhere", bell.has(6), 2);
        bell.go(6);
        // ann's LIFE is left, cid's is dried by dan (10 is not above 30)
        Check.same("KEPT", bell.has(7), 2);
        Check.same("ACTS", bell.has(8), 3);
        Check.same("HOUR", bell.has(3), 6);
        Check.same("others", bell.has(-1), NONE);
        Check.same("others", bell.has(9), NONE);
    }

    private static void letter() {
        NoonBell bell = Check.of("person az ward 1;person abcdef ward 2;task zyx hard 1;");
        Check.same("a", bell.letter(0, 0, 0), 1);
        Check.same("z", bell.letter(0, 0, 1), 26);
        Check.same("behind it", bell.letter(0, 0, 2), 0);
        Check.same("behind it", bell.letter(0, 0, 5), 0);
        Check.same("the sixth", bell.letter(0, 1, 5), 6);
        Check.same("x", bell.letter(1, 0, 2), 24);
        int[][] none = {{0, 0, 6}, {0, 0, -1}, {0, 2, 0}, {0, -1, 0}, {1, 1, 0}, {1, -1, 0}, {2, 0, 0}, {-1, 0, 0}};
        for (int[] n : none) Check.same("no letter", bell.letter(n[0], n[1], n[2]), NONE);
    }

    private static void person() {
        NoonBell bell = Check.of(ANN);
        bell.watch(3, 2);
        int[][] due = {{1, 0, NONE, NONE, 1, 2, 0}, {1, 1, NONE, 0, 2, 1, 1}, {2, 2, NONE, 1, 3, 2, 2}, {2, 3, 2, 2, NONE, 0, 3}};
        for (int p = 0; p < 4; p++) {
            for (int what = 0; what < 7; what++) {
                Check.same("person " + p + " " + what, bell.person(p, what), due[p][what]);
            }
            Check.same("others", bell.person(p, 7), NONE);
            Check.same("others", bell.person(p, -1), NONE);
        }
        bell.call(1);
        Check.same("away", bell.person(1, 1), NONE);
        Check.same("cid lives bob's LIFE", bell.person(2, 1), 1);
        Check.same("bob's LIFE is lived by cid", bell.person(1, 6), 2);
        Check.same("dan's LIFE is lived by nobody", bell.person(3, 6), NONE);
        Check.same("none such", bell.person(4, 0), NONE);
        Check.same("none such", bell.person(-1, 0), NONE);
    }

    private static void points() {
        NoonBell bell = Check.of(TWO + "knows a b 7;knows a b 8;");
        Check.same("the last one counts", bell.points(0, 1), 8);
        Check.same("his own", bell.points(0, 0), 99);
        Check.same("untold", bell.points(1, 0), 0);
        int[][] none = {{2, 0}, {0, 2}, {-1, 0}, {0, -1}, {0, 10}, {Integer.MAX_VALUE, 0}};
        for (int[] n : none) Check.same("none such", bell.points(n[0], n[1]), NONE);
    }

    private static void could() {
        NoonBell bell = Check.of(ANN);
        Check.same("40 above 30", bell.could(1, 0, 0, 6), 1);
        Check.same("40 not above 60", bell.could(1, 0, 1, 20), 0);
        Check.same("his own", bell.could(3, 3, 1, 0), 1);
        bell.teach(1, 0, 61);
        Check.same("61 above 60", bell.could(1, 0, 1, 23), 1);
        int[][] none = {{4, 0, 0, 0}, {-1, 0, 0, 0}, {0, 4, 0, 0}, {0, -1, 0, 0}, {0, 0, 2, 0}, {0, 0, -1, 0}, {0, 0, 0, 24}, {0, 0, 0, -1}};
        for (int[] n : none) Check.same("none such", bell.could(n[0], n[1], n[2], n[3]), NONE);
        bell = Check.of(TWO + "can clock=3 and day=1 or clock=4 and own=1 or hard=10;");
        Check.same("day 0", bell.could(0, 0, 0, 3), 0);
        Check.same("clock 4", bell.could(0, 0, 0, 4), 1);
        Check.same("clock 4, not his own", bell.could(0, 1, 0, 4), 0);
        bell.go(24);
        Check.same("day 1", bell.could(0, 1, 0, 3), 1);
        Check.same("another clock", bell.could(0, 1, 0, 2), 0);
        Check.same("without can", Check.of(TWO).could(0, 1, 0, 0), 1);
    }

    private static void numbers() {
        // each can is true just when the SUM is the number behind it
        String[] right = {
            "2+3*4=14", "(2+3)*4=20", "10-3-2=5", "7/2=3", "100/7/2=7", "2*7/4=3", "(0-7)/2=0-4", "7/(0-2)=0-4",
            "5/0=0", "0/5=0", "(0-8)/(0-3)=2", "9999*9999=1000*1000", "(9999*9999-1)=1000*1000-1", "0-9999*9999=0-1000*1000",
            "min(3,2)=2", "max(3,2)=3", "min(0-1,max(5,1))=0-1", "9999*9999+1=9999*9999", "(0-9999*9999)-5=0-9999*9999",
            "0-9999*9999*2=0-9999*9999", "1<2", "not 2<1", "2>1 and 2<3", "1=2 or 1=1", "not[1=2 and all]", "all or all and 1=2",
            "[all or all]and not 1=2", "not 1=2 and not 2=3", "not not all", "clock=6", "day=0", "points=99", "hard=9", "own=1"};
        for (String test : right) {
            NoonBell bell = Check.of(TWO + "can " + test + ";");
            Check.same(test, bell.could(0, 0, 0, 6), 1);
        }
        String[] wrong = {"all and 1=2", "not all", "1=2 or 2=3", "[all or all]and 1=2", "not all or 1=2", "1>1", "1<1", "own=0"};
        for (String text : wrong) Check.same(text, Check.of(TWO + "can " + text + ";").could(0, 0, 0, 6), 0);
        Check.same("own 0", Check.of(TWO + "can own=0 and points=0;").could(0, 1, 0, 0), 1);
    }

    private static void kept() {
        NoonBell bell = Check.of(ROUND);
        // b goes on in a's LIFE, c in b's: c's LIFE is left
        bell.call(0);
        bell.go(1);
        int[][] due = {{1, 1, 0, 1}, {1, 1, 1, 2}, {1, 0, 2, NONE}};
        Check.same("KEPT", bell.has(7), 3);
        for (int k = 0; k < 3; k++) {
            for (int what = 0; what < 4; what++) Check.same("kept " + k + " " + what, bell.kept(k, what), due[k][what]);
        }
        Check.same("none such", bell.kept(3, 0), NONE);
        Check.same("none such", bell.kept(-1, 0), NONE);
        Check.same("others", bell.kept(0, 4), NONE);
        Check.same("others", bell.kept(0, -1), NONE);
        // 41 of them: each HOUR one DUTY of b's that none can do
        StringBuilder text = new StringBuilder(TWO);
        for (int clock = 0; clock < 24; clock++) text.append("does b t at ").append(clock).append(";");
        bell = Check.of(text + "can not all;");
        bell.go(40);
        Check.same("forty", bell.has(7), 40);
        Check.same("the oldest", bell.kept(0, 0), 1);
        bell.go(1);
        Check.same("forty at most", bell.has(7), 40);
        Check.same("the oldest", bell.kept(0, 0), 2);
        Check.same("the latest", bell.kept(39, 0), 41);
        Check.same("ahead of the oldest", bell.kept(-1, 0), NONE);
        Check.same("behind the latest", bell.kept(40, 0), NONE);
        Check.same("another part", bell.kept(0, 4), NONE);
        Check.same("which", bell.kept(39, 1), 1);
        Check.same("who", bell.kept(39, 3), 1);
        bell.undo();
        Check.same("undone: the oldest", bell.kept(0, 0), 1);
        Check.same("undone: the latest", bell.kept(39, 0), 40);
    }

    private static void hours() {
        // LEFT, DRIED, NOTICED in the order of LIVES, then as told
        NoonBell bell = Check.of("person a ward 1;person b ward 1;person c ward 2;person d ward 1;task t hard 1;task u hard 50;"
                + "does b u at 2;does b t at 2;does a t at 2;does d t at 2;covers c a;knows c a 10;knows b a 20;knows d a 9;"
                + "can points>hard;notice theirs>points and same=1 or clock=3;");
        bell.call(0);
        bell.go(2);
        // c does a's task; b (20 above 10, of a's ward) notices, d (9) not, a is away; b does both
        Check.same("KEPT", bell.has(7), 1);
        Check.same("HOUR", bell.kept(0, 0), 2);
        Check.same("NOTICED", bell.kept(0, 1), 2);
        Check.same("LIFE", bell.kept(0, 2), 0);
        Check.same("who", bell.kept(0, 3), 1);
        // by night all are home, and without forget the points stay
        bell.go(22);
        Check.same("home", bell.person(0, 1), 0);
        Check.same("home", bell.person(2, 1), 2);
        Check.same("points", bell.points(2, 0), 10);
        // forget below 0 and above 99, the clock 0 and the new day
        bell = Check.of("person a ward 1;person b ward 2;person c ward 2;forget same*200-50+day+clock*9;");
        bell.go(24);
        Check.same("below 0", bell.points(0, 1), 0);
        Check.same("above 99", bell.points(1, 2), 99);
        Check.same("his own", bell.points(1, 1), 99);
        bell = Check.of("person a ward 1;person b ward 2;forget points/2+day+clock;knows a b 50;");
        bell.go(23);
        Check.same("before night", bell.points(0, 1), 50);
        bell.go(1);
        Check.same("first night", bell.points(0, 1), 26);
        bell.go(24);
        Check.same("second night", bell.points(0, 1), 15);
        order();
        whoNotices();
        lessons();
    }

    /** DUTIES by LIVES, then as they are told. */
    private static void order() {
        NoonBell bell = Check.of("person a ward 1;person b ward 1;person c ward 1;task t hard 1;task u hard 50;covers c b;knows c b 9;"
                + "does c u at 2;does b u at 2;does c t at 2;does a t at 2;does b t at 2;does a u at 2;can points>hard and own=0;notice all;");
        int[] duties = {2, 2, 2};
        for (int p = 0; p < 3; p++) Check.same("DUTIES", bell.person(p, 5), duties[p]);
        bell.call(1);
        bell.go(2);
        // a dries both; b's u is dried by c ahead of t, that a notices; c's are left
        int[][] due = {{1, 0, 0}, {1, 0, 0}, {1, 1, 2}, {2, 1, 0}, {0, 2, NONE}, {0, 2, NONE}};
        Check.same("KEPT", bell.has(7), due.length);
        for (int k = 0; k < due.length; k++) {
            for (int what = 0; what < 3; what++) Check.same("kept " + k, bell.kept(k, what + 1), due[k][what]);
        }
    }

    /** Not who lives it, not who owns it, nobody who is away; and nobody a LIFE that is one's own. */
    private static void whoNotices() {
        NoonBell bell = Check.of("person z ward 1;person a ward 1;person b ward 1;person c ward 1;person d ward 1;task t hard 1;"
                + "does b t at 2;does d t at 2;covers b a;covers c b;notice all;");
        bell.call(1);
        bell.go(2);
        // b lives a's LIFE and c b's: b's task is noticed by z and d, d's own one by nobody
        int[] who = {0, 4};
        Check.same("KEPT", bell.has(7), 2);
        for (int k = 0; k < 2; k++) {
            Check.same("NOTICED", bell.kept(k, 1), 2);
            Check.same("LIFE", bell.kept(k, 2), 2);
            Check.same("who", bell.kept(k, 3), who[k]);
        }
        // by the points of who lives it, the HOUR's clock and day, and one's ward and the owner's
        String city = "person a ward 1;person b ward 2;person c ward 1;person d ward 2;task t hard 1;does a t at 2;covers b a;"
                + "knows b a 20;knows c a 30;knows d a 40;";
        String[] tests = {"points=20", "theirs=30", "same=1", "same=0", "clock=2", "day=1", "clock=3", "theirs>points+15"};
        int[] noticed = {12, 4, 4, 8, 12, 0, 0, 8};
        for (int k = 0; k < tests.length; k++) {
            bell = Check.of(city + "notice " + tests[k] + ";");
            bell.call(0);
            bell.go(2);
            int bits = 0;
            for (int j = 0; j < bell.has(7); j++) bits |= 1 << bell.kept(j, 3);
            Check.same("noticed by " + tests[k], bits, noticed[k]);
        }
        bell = Check.of(city + "notice day=1;");
        bell.go(24);
        bell.call(0);
        bell.go(2);
        Check.same("on day 1", bell.has(7), 2);
        bell = Check.of(city);
        bell.call(0);
        bell.go(2);
        Check.same("nobody without notice", bell.has(7), 0);
    }

    private static void lessons() {
        // learning: not with a DUTY by the LIFE lived, not away; points clamped; the HOUR's clock and day
        NoonBell bell = Check.of(TWO + "does a t at 2;covers a b;learn points+clock*10+day;");
        bell.watch(0, 1);
        bell.go(1);
        Check.same("clock 1", bell.points(0, 1), 10);
        bell.go(1);
        Check.same("a DUTY at 2", bell.points(0, 1), 10);
        bell.go(1);
        Check.same("clock 3", bell.points(0, 1), 40);
        bell.go(20);
        Check.same("99 at most", bell.points(0, 1), 99);
        bell = Check.of(TWO + "does a t at 2;covers a b;learn points+clock*10+day;");
        bell.watch(0, 1);
        bell.call(1);
        bell.go(2);
        Check.same("a lives b's LIFE, without a DUTY at 2", bell.points(0, 1), 30);
        bell.call(0);
        bell.go(5);
        Check.same("away", bell.points(0, 1), 30);
        bell.go(19);
        Check.same("watches on", bell.points(0, 1), 30 + 1 + 11);
        bell = Check.of(TWO + "learn 0-points-5;knows a b 50;");
        bell.watch(0, 1);
        bell.go(1);
        Check.same("0 at least", bell.points(0, 1), 0);
        bell = Check.of(TWO + "knows a b 50;");
        bell.watch(0, 1);
        bell.go(5);
        Check.same("without learn", bell.points(0, 1), 50);
        // what is learned in an HOUR counts behind its DUTIES alone
        bell = Check.of(TWO + "person c ward 1;does b t at 1;covers c b;learn 99;can points>50;");
        bell.watch(2, 1);
        bell.call(1);
        bell.go(1);
        Check.same("dried", bell.kept(0, 1), 1);
        Check.same("a DUTY by the LIFE he lives", bell.points(2, 1), 0);
    }

    private static void wave() {
        NoonBell bell = Check.of(ANN);
        Check.same("how many", bell.wave(1, NONE), 2);
        Check.same("cid", bell.wave(1, 0), 2);
        Check.same("dan", bell.wave(1, 1), 3);
        Check.same("no third", bell.wave(1, 2), NONE);
        Check.same("dan's LIFE is left", bell.wave(1, 20), 3);
        Check.same("others", bell.wave(1, -2), NONE);
        Check.same("others", bell.wave(1, 21), NONE);
        Check.same("none such", bell.wave(4, NONE), NONE);
        Check.same("none such", bell.wave(-1, 20), NONE);
        Check.same("nothing changes", bell.has(4), 0);
        bell.call(2);
        // dan lives cid's LIFE: nobody goes on in bob's but dan can't
        Check.same("bob's wave", bell.wave(1, NONE), 0);
        Check.same("bob's LIFE is left", bell.wave(1, 20), 1);
        Check.same("cid is away", bell.wave(2, NONE), NONE);
        Check.same("dan leaves cid's LIFE", bell.wave(3, 20), 2);
        bell = Check.of(ROUND);
        Check.same("round", bell.wave(1, NONE), 2);
        Check.same("round", bell.wave(1, 0), 2);
        Check.same("round", bell.wave(1, 1), 0);
        Check.same("round", bell.wave(1, 20), 0);
    }

    private static void would() {
        NoonBell bell = Check.of(ROUND);
        Check.same("LEFT", bell.would(0, 0), 1);
        Check.same("DRIED", bell.would(0, 1), 2);
        Check.same("others", bell.would(0, 2), NONE);
        Check.same("others", bell.would(0, -1), NONE);
        Check.same("none such", bell.would(3, 0), NONE);
        Check.same("HOUR", bell.has(3), 0);
        bell.go(1);
        Check.same("the DUTIES are over", bell.would(0, 0), 0);
        bell.go(22);
        Check.same("clock 23", bell.would(0, 1), 0);
        bell.call(0);
        Check.same("away", bell.would(0, 0), NONE);
        // learning counts: b has no DUTY in a's LIFE till clock 5, and is able by then
        bell = Check.of(TWO + "does a t at 5;does a t at 23;does a t at 0;covers b a;learn points+2;can points>hard;");
        Check.same("without watching", bell.would(0, 1), 2);
        bell.watch(1, 0);
        Check.same("watching: 8 at clock 5, 42 at 23", bell.would(0, 1), 1);
        bell.teach(1, 0, 2);
        Check.same("10 at clock 5", bell.would(0, 1), 0);
        // this day alone: the DUTY at 0 is not met any more
        bell = Check.of(TWO + "does b t at 0;does b t at 1;does b t at 23;can not all;");
        for (int hour = 0; hour <= 23; hour++) {
            Check.same("DRIED from " + hour, bell.would(0, 1), hour == 0 ? 2 : hour < 23 ? 1 : 0);
            bell.go(1);
        }
        late();
    }

    /** Nobody's HOURS go above 9999 (day 416, clock 15). */
    private static void late() {
        NoonBell bell = Check.of(TWO + "does a t at 15;does a t at 16;");
        for (int k = 0; k < 19; k++) bell.go(500);
        Check.same("go", bell.go(498), 9998);
        Check.same("too far", bell.go(2), NONE);
        Check.same("would", bell.would(0, 0), 1);
        Check.same("first by nobody away", bell.first(0), NONE);
        Check.same("bells", bell.bells(1), NONE);
        Check.same("ask two HOURS", Check.ask(bell, 0, "often all"), 2);
        bell.call(0);
        Check.same("first", bell.first(0), 9999);
        Check.same("go", bell.go(1), 9999);
        Check.same("image", bell.image(), 11);
        Check.same("HOUR in the image", bell.octet(0), 39);
        Check.same("HOUR in the image", bell.octet(1), 15);
        Check.same("would at the end", bell.would(1, 0), 0);
        Check.same("first at the end", bell.first(0), NONE);
        Check.same("ask one HOUR", Check.ask(bell, 0, "total hour"), 9999);
        Check.same("no more", bell.go(1), NONE);
        Check.same("refused", bell.status(2), 3);
    }

    private static void first() {
        NoonBell bell = Check.of(ANN);
        Check.same("nothing", bell.first(0), NONE);
        bell.call(0);
        int[] due = {6, 1, 2};
        for (int what = 0; what < 3; what++) Check.same("first " + what, bell.first(what), due[what]);
        Check.same("others", bell.first(3), NONE);
        Check.same("others", bell.first(-1), NONE);
        bell.call(1);
        due = new int[] {6, 0, 0};
        for (int what = 0; what < 3; what++) Check.same("first " + what, bell.first(what), due[what]);
        Check.same("HOUR", bell.has(3), 0);
        // 72 AHEAD, not 73; the HOUR that is now does not count
        bell = Check.of(TWO + "does b t at 0;can day<3;");
        Check.same("in 72 HOURS", bell.first(0), 72);
        Check.same("which", bell.first(1), 1);
        Check.same("LIFE", bell.first(2), 1);
        bell = Check.of(TWO + "does b t at 1;can day<3;");
        Check.same("in 73 HOURS", bell.first(0), NONE);
        bell.go(1);
        Check.same("in 72 HOURS", bell.first(0), 73);
        bell = Check.of(TWO + "does b t at 1;can day=1;");
        bell.go(1);
        Check.same("not now", bell.first(0), 49);
    }

    private static void best() {
        NoonBell bell = Check.of(ANN);
        int[][] due = {{1, 1}, {2, 1}, {0, 0}, {0, 0}};
        for (int life = 0; life < 4; life++) {
            for (int what = 0; what < 2; what++) Check.same("best " + life, bell.best(life, what), due[life][what]);
        }
        bell.teach(3, 0, 31);
        Check.same("of like ones the first", bell.best(0, 0), 1);
        bell.teach(3, 0, 61);
        Check.same("both DUTIES", bell.best(0, 0), 3);
        Check.same("both DUTIES", bell.best(0, 1), 2);
        bell.call(3);
        Check.same("though away", bell.best(0, 0), 3);
        Check.same("none such", bell.best(4, 0), NONE);
        Check.same("none such", bell.best(-1, 0), NONE);
        Check.same("others", bell.best(0, 2), NONE);
        Check.same("others", bell.best(0, -1), NONE);
        bell = Check.of("person a ward 1;task t hard 1;does a t at 1;");
        Check.same("none other", bell.best(0, 0), NONE);
        Check.same("none other", bell.best(0, 1), NONE);
        bell = Check.of(TWO + "does a t at 1;does a t at 2;does a t at 3;can clock>1 and day=0;");
        Check.same("each DUTY's clock", bell.best(0, 1), 2);
        bell.go(24);
        Check.same("today", bell.best(0, 1), 0);
    }

    private static void study() {
        NoonBell bell = Check.of(ANN);
        Check.same("bob for ann: 55, 70", bell.study(1, 0), 2);
        Check.same("dan for cid: 25, 40", bell.study(3, 2), 2);
        Check.same("cid for bob: already", bell.study(2, 1), 0);
        Check.same("none to do", bell.study(0, 3), 0);
        Check.same("his own", bell.study(1, 1), NONE);
        Check.same("none such", bell.study(4, 0), NONE);
        Check.same("none such", bell.study(0, 4), NONE);
        Check.same("none such", bell.study(-1, 0), NONE);
        Check.same("nothing changes", bell.points(1, 0), 40);
        bell = Check.of(TWO + "does b t at 3;learn points+1;can points=99;");
        Check.same("99 HOURS", bell.study(0, 1), 99);
        bell = Check.of(TWO + "does b t at 3;learn points+clock;can points=10 and clock=3 and day=0;");
        Check.same("clock 0 in each", bell.study(0, 1), NONE);
        bell.go(5);
        Check.same("clock 5 in each", bell.study(0, 1), 2);
        bell.go(19);
        Check.same("another day", bell.study(0, 1), NONE);
        bell = Check.of(TWO + "does b t at 3;learn points+1;can points>98 and not points=99;");
        Check.same("never", bell.study(0, 1), NONE);
        bell = Check.of(TWO + "does b t at 3;can points>5;knows a b 5;");
        Check.same("without learn", bell.study(0, 1), NONE);
        bell = Check.of(TWO + "does b t at 3;learn 150;can points>98;");
        Check.same("above 99 is 99", bell.study(0, 1), 1);
    }

    private static void change() {
        NoonBell bell = Check.of(ANN);
        Check.same("DRIED", bell.change(NONE), 3);
        int[] due = {1, 2, 3, 0};
        for (int k = 0; k < 4; k++) Check.same("change " + k, bell.change(k), due[k]);
        Check.same("others", bell.change(4), NONE);
        Check.same("others", bell.change(-2), NONE);
        Check.same("nobody", new NoonBell().change(NONE), NONE);
        Check.same("one", Check.of("person a ward 1;").change(NONE), NONE);
        bell = Check.of(TWO);
        Check.same("two", bell.change(NONE), 0);
        Check.same("two", bell.change(0), 1);
        Check.same("two", bell.change(1), 0);
        // who is best for a's LIFE (b, 2 DUTIES) is wanted more in c's (3 DUTIES)
        bell = Check.of("person a ward 1;person b ward 1;person c ward 1;task t hard 1;does a t at 1;does a t at 2;"
                + "does c t at 1;does c t at 2;does c t at 3;knows b a 9;knows b c 9;can points>5;");
        Check.same("DRIED", bell.change(NONE), 2);
        Check.same("a's LIFE", bell.change(0), 2);
        Check.same("b's LIFE", bell.change(1), 0);
        Check.same("c's LIFE", bell.change(2), 1);
        bell.teach(1, 2, 0);
        Check.same("DRIED now", bell.change(NONE), 3);
        Check.same("a's LIFE now", bell.change(0), 1);
        Check.same("b's LIFE now", bell.change(1), 2);
        Check.same("c's LIFE now", bell.change(2), 0);
        bell = Check.of("person a ward 1;person b ward 1;person c ward 1;person d ward 1;");
        Check.same("no DUTIES", bell.change(NONE), 0);
        int[] first = {1, 0, 3, 2};
        for (int k = 0; k < 4; k++) Check.same("the first of like ones", bell.change(k), first[k]);
    }

    private static void ring() {
        NoonBell bell = Check.of("person a ward 1;person b ward 1;person c ward 1;person d ward 1;person e ward 1;"
                + "person f ward 1;covers a b;covers b a;covers c d;covers d e;");
        int[] due = {2, 2, 0, 0, 0, 0};
        for (int p = 0; p < 6; p++) Check.same("ring " + p, bell.ring(p), due[p]);
        Check.same("none such", bell.ring(6), NONE);
        Check.same("none such", bell.ring(-1), NONE);
        StringBuilder text = new StringBuilder();
        for (int k = 0; k < 10; k++) text.append("person ").append((char) ('a' + k)).append(" ward 0;");
        for (int k = 0; k < 10; k++) text.append("covers ").append((char) ('a' + k)).append(' ').append((char) ('a' + (k + 1) % 10)).append(';');
        bell = Check.of(text.toString());
        for (int p = 0; p < 10; p++) Check.same("ring of ten", bell.ring(p), 10);
        Check.same("nine go on", bell.call(4), 9);
        Check.same("the ring stays", bell.ring(4), 10);
    }

    private static void odds() {
        NoonBell bell = Check.of(ANN);
        // dan goes on in cid's LIFE when ann, bob or cid is called: 3 of 4
        int[] due = {0, 750, 937, 984, 996};
        for (int n = 0; n <= 4; n++) Check.same("odds by " + n, bell.odds(3, 2, n), due[n]);
        Check.same("never", bell.odds(0, 3, 4), 0);
        Check.same("his own", bell.odds(2, 2, 1), NONE);
        Check.same("none such", bell.odds(4, 2, 1), NONE);
        Check.same("none such", bell.odds(2, 4, 1), NONE);
        Check.same("none such", bell.odds(-1, 2, 1), NONE);
        Check.same("n", bell.odds(3, 2, -1), NONE);
        Check.same("n", bell.odds(3, 2, 5), NONE);
        bell.call(3);
        Check.same("from when all are home", bell.odds(3, 2, 1), 750);
        Check.same("dan is away as before", bell.has(4), 1);
        bell = Check.of(ROUND);
        Check.same("two of three", bell.odds(1, 0, 1), 666);
        Check.same("eight of nine", bell.odds(1, 0, 2), 888);
    }

    private static void go() {
        NoonBell bell = Check.of(TWO);
        Check.same("none", bell.go(0), NONE);
        Check.same("below", bell.go(-5), NONE);
        Check.same("too many", bell.go(501), NONE);
        Check.same("refused", bell.status(2), 3);
        Check.same("no ACT", bell.has(8), 0);
        Check.same("one", bell.go(1), 1);
        Check.same("most", bell.go(500), 501);
        Check.same("ACTS", bell.has(8), 2);
    }

    private static void call() {
        NoonBell bell = Check.of(ANN);
        Check.same("none such", bell.call(4), NONE);
        Check.same("none such", bell.call(-1), NONE);
        Check.same("cid", bell.call(2), 1);
        Check.same("away", bell.call(2), NONE);
        Check.same("refused", bell.status(2), 3);
        Check.same("dan in cid's LIFE", bell.person(3, 1), 2);
        Check.same("ann: bob goes on; cid is away", bell.call(0), 1);
        Check.same("bob in ann's LIFE", bell.person(1, 1), 0);
        Check.same("bob's LIFE is left", bell.person(1, 6), NONE);
        Check.same("bob leaves ann's LIFE", bell.call(1), 0);
        Check.same("ann's LIFE is left", bell.person(0, 6), NONE);
        Check.same("ACTS", bell.has(8), 3);
        bell = Check.of(ROUND);
        Check.same("round", bell.call(0), 2);
        Check.same("c's LIFE is left", bell.person(2, 6), NONE);
    }

    private static void watchAndTeach() {
        NoonBell bell = Check.of(TWO);
        Check.no("none already", bell.watch(0, NONE));
        Check.no("his own", bell.watch(0, 0));
        Check.no("none such", bell.watch(2, 0));
        Check.no("none such", bell.watch(0, 2));
        Check.no("none such", bell.watch(0, -2));
        Check.no("none such", bell.watch(-1, NONE));
        Check.same("refused", bell.status(3), 6);
        Check.yes("watch", bell.watch(0, 1));
        Check.no("so already", bell.watch(0, 1));
        Check.same("watches", bell.person(0, 2), 1);
        Check.yes("none any more", bell.watch(0, NONE));
        Check.same("watches none", bell.person(0, 2), NONE);
        Check.same("ACTS", bell.has(8), 2);
        Check.same("refused", bell.status(3), 7);
        Check.same("teach", bell.teach(0, 1, 99), 0);
        Check.same("teach", bell.teach(0, 1, 99), 99);
        Check.same("teach", bell.teach(0, 1, 0), 99);
        Check.same("points", bell.points(0, 1), 0);
        Check.same("ACTS", bell.has(8), 5);
        int[][] none = {{0, 0, 5}, {0, 1, 100}, {0, 1, -1}, {2, 0, 5}, {0, 2, 5}, {-1, 0, 5}, {0, -1, 5}};
        for (int[] n : none) Check.same("teach", bell.teach(n[0], n[1], n[2]), NONE);
        Check.same("refused", bell.status(3), 14);
        Check.same("ACTS", bell.has(8), 5);
        bell.call(0);
        Check.yes("watch though away", bell.watch(0, 1));
        Check.same("teach though away", bell.teach(0, 1, 4), 0);
    }

    private static void bells() {
        String text = "person a ward 1;person b ward 1;person c ward 1;task t hard 1;"
                + "does a t at 12;does a t at 13;does b t at 13;does c t at 13;";
        NoonBell bell = Check.of(text);
        Check.same("no day", bell.bells(0), NONE);
        Check.same("too many", bell.bells(21), NONE);
        Check.same("below", bell.bells(-1), NONE);
        Check.same("refused", bell.status(2), 3);
        Check.yes("seed", bell.seed(5));
        Check.same("twenty days", bell.bells(20), 480);
        Check.same("one ACT", bell.has(8), 1);
        Check.same("one LEFT a day", bell.has(7), 20);
        long x = 5;
        for (int day = 0; day < 20; day++) {
            x = drawn(x);
            Check.same("HOUR", bell.kept(day, 0), 24 * day + 13);
            Check.same("LIFE", bell.kept(day, 2), x / 64 % 3);
        }
        Check.same("home again", bell.has(4), 0);
        Check.yes("undo", bell.undo());
        Check.same("HOUR", bell.has(3), 0);
        Check.same("KEPT", bell.has(7), 0);
        bell.bells(1);
        x = drawn(x);
        Check.same("the seed stays by undo", bell.kept(0, 2), x / 64 % 3);
        bell.undo();
        bell.go(12);
        Check.same("from 12 on: the next day's noon", bell.bells(1), 48);
        bell.undo();
        bell.undo();
        bell.go(11);
        Check.same("from 11 on", bell.bells(1), 24);
        bell.undo();
        bell.go(2);
        Check.same("from 13 on", bell.bells(2), 72);
        // one who is away is not called: at 13 DUTIES are left by the CALL ahead alone
        bell = Check.of("person a ward 1;task t hard 1;does a t at 13;");
        bell.go(5);
        bell.call(0);
        Check.same("away at noon", bell.bells(1), 24);
        Check.same("LEFT", bell.has(7), 1);
        Check.same("nobody", new NoonBell().bells(20), 480);
        edgeOfBells(Check.of(text));
    }

    /** The last clock 0 that there is: 9984. */
    private static void edgeOfBells(NoonBell bell) {
        for (int k = 0; k < 19; k++) bell.go(500);
        Check.same("to 9960 and 9984", bell.bells(20), 9984);
        Check.same("above 9999", bell.bells(1), NONE);
        bell.undo();
        Check.same("above 9999", bell.go(1), 9501);
        bell.go(12);
        Check.same("from 9513 (clock 9)", bell.bells(20), 9984);
        bell.undo();
        bell.go(3);
        Check.same("from 9516 (clock 12)", bell.bells(20), NONE);
        Check.same("from 9516 (clock 12)", bell.bells(19), 9984);
    }

    private static void undo() {
        NoonBell bell = Check.of(ANN);
        Check.no("nothing yet", bell.undo());
        Check.same("refused", bell.status(4), 1);
        bell.call(0);
        bell.watch(3, 2);
        bell.teach(0, 1, 50);
        bell.go(30);
        bell.bells(2);
        bell.undo();
        Check.same("HOUR", bell.has(3), 30);
        bell.undo();
        Check.same("HOUR", bell.has(3), 0);
        Check.same("KEPT", bell.has(7), 0);
        Check.same("away", bell.has(4), 1);
        Check.same("points", bell.points(0, 1), 50);
        bell.undo();
        Check.same("points", bell.points(0, 1), 0);
        Check.same("watches", bell.person(3, 2), 2);
        bell.undo();
        Check.same("watches", bell.person(3, 2), NONE);
        Check.same("away", bell.has(4), 1);
        bell.undo();
        Check.same("away", bell.has(4), 0);
        Check.no("no more", bell.undo());
        for (int k = 1; k <= 21; k++) bell.teach(0, 1, k);
        Check.same("twenty", bell.has(8), 20);
        for (int k = 20; k >= 1; k--) {
            Check.yes("undo", bell.undo());
            Check.same("points", bell.points(0, 1), k);
        }
        Check.no("the 21st", bell.undo());
        Check.same("refused", bell.status(4), 3);
    }

    private static void seed() {
        NoonBell bell = Check.of("person a ward 1;person b ward 1;task t hard 1;does a t at 13;does b t at 13;");
        Check.no("below 0", bell.seed(-1));
        Check.no("below 0", bell.seed(Integer.MIN_VALUE));
        Check.same("refused", bell.status(5), 2);
        long[] seeds = {1, 0, 1, Integer.MAX_VALUE, 12, 13, 14};
        for (int k = 0; k < seeds.length; k++) {
            if (k > 0) Check.yes("seed", bell.seed((int) seeds[k]));
            bell.bells(3);
            long x = seeds[k];
            for (int day = 0; day < 3; day++) {
                x = drawn(x);
                Check.same("called", bell.kept(day, 2), x / 64 % 2);
            }
            Check.city(bell, "person a ward 1;person b ward 1;task t hard 1;does a t at 13;does b t at 13;");
        }
        Check.same("no ACT", bell.has(8), 0);
    }

    private static int slipsOf(NoonBell bell, int life, int... bytes) {
        bell.end(0);
        Check.feed(bell, 0, bytes);
        int answer = bell.slips(life);
        Check.no("the tape goes", bell.end(1));
        return answer;
    }

    private static void slipsAndWho() {
        NoonBell bell = Check.of(ANN);
        Check.same("not told", bell.who(), NONE);
        Check.same("rows", slipsOf(bell, 0, 6, 0, 1, 20, 1, 0), 2);
        Check.same("bob", bell.who(), 2);
        Check.same("clock", slipsOf(bell, 0, 24, 0, 0), NONE);
        Check.same("task", slipsOf(bell, 0, 0, 2, 0), NONE);
        Check.same("done", slipsOf(bell, 0, 0, 0, 2), NONE);
        Check.same("half a row", slipsOf(bell, 0, 0, 0, 1, 5), NONE);
        Check.same("no row", slipsOf(bell, 0), NONE);
        Check.same("no LIFE", slipsOf(bell, 4, 0, 0, 0), NONE);
        Check.same("no LIFE", slipsOf(bell, -1, 0, 0, 0), NONE);
        Check.same("a later task", slipsOf(bell, 0, 0, 0, 0, 0, 255, 0), NONE);
        Check.same("a later clock", slipsOf(bell, 0, 0, 0, 0, 24, 0, 0), NONE);
        Check.same("a later done", slipsOf(bell, 0, 0, 0, 0, 0, 0, 2), NONE);
        Check.same("21 rows", slipsOf(bell, 0, new int[63]), NONE);
        Check.same("refused", bell.status(1), 11);
        Check.same("all stays", bell.who(), 2);
        bell.teach(1, 0, 61);
        Check.same("by the points of now", bell.who(), 0);
        bell.undo();
        Check.same("by the points of now", bell.who(), 2);
        bell.go(1);
        Check.same("told as before", bell.who(), 2);
        Check.same("20 rows", slipsOf(bell, 0, new int[60]), 20);
        Check.same("who can't bake", bell.who(), 12);
        Check.same("done by all who can", slipsOf(bell, 3, 23, 1, 1), 1);
        Check.same("dan", bell.who(), 8);
        Check.same("both done and not", slipsOf(bell, 3, 23, 1, 1, 23, 1, 0), 2);
        Check.same("none", bell.who(), 0);
        bell = Check.of(TWO + "can clock=5 and day=1;");
        Check.same("rows", slipsOf(bell, 0, 5, 0, 1), 1);
        Check.same("day 0", bell.who(), 0);
        bell.go(24);
        Check.same("day 1", bell.who(), 3);
    }

    private static void ask() {
        NoonBell bell = Check.of(ANN);
        Check.same("none such", Check.ask(bell, 4, "x"), NoonBell.NOTHING);
        Check.no("the tape goes", bell.end(1));
        Check.same("fault stays", bell.fault(0), 0);
        Check.same("a fault", Check.ask(bell, 0, "first x"), NoonBell.NOTHING);
        Check.no("the tape goes", bell.end(1));
        Check.same("fault", bell.fault(1), 6);
        Check.same("none such", Check.ask(bell, -1, "first all"), NoonBell.NOTHING);
        Check.same("fault stays", bell.fault(1), 6);
        bell.go(2);
        bell.call(0);
        String[] texts = {"first life=1", "often life=0", "last life=0", "total dries", "first dries>0", "most points 0",
            "least points 0", "first life=3", "last not all", "often not all", "total 9999*9999", "least 0-9999*9999",
            "most hour", "least hour", "most clock", "most day", "total life", "first points life=70", "most points 1",
            "total points 10", "total points(0-1)", "first hour>20 and clock<3", "often hour=2 or hour=49 or hour=50", "last all",
            "least clock", "first clock=2", "first day=0", "most 100-hour", "most 0-1-hour", "least 0-hour", "most 0-points 0"};
        long[] dues = {24, 22, 23, 1, 20, 40, 33, -1, -1, 0, 48000000, -1000000,
            49, 2, 23, 2, 26, -1, 99, 0, 0, 24, 2, 49, 0, 2, 2, 98, -3, -49, -33};
        for (int k = 0; k < texts.length; k++) Check.same(texts[k], Check.ask(bell, 1, texts[k]), dues[k]);
        Check.same("fault", bell.fault(0), 0);
        bell.could(0, 0, 0, 23);
        Check.same("the clock of now", Check.ask(bell, 1, "first clock=23"), 23);
        Check.same("the longest QUESTION", Check.ask(bell, 1, "least 1" + "+1".repeat(796) + " "), 797);
        Check.same("away", Check.ask(bell, 0, "often life=99"), 22);
        Check.same("away: no LIFE's points", Check.ask(bell, 0, "first points life>0"), 24);
        Check.same("HOUR", bell.has(3), 2);
        Check.same("points", bell.points(1, 0), 40);
        // what was dried in the HOUR that is now does not count, but in the same HOUR of tomorrow
        bell = Check.of(TWO + "does a t at 3;does a t at 4;can not all;");
        bell.go(3);
        Check.same("none now", Check.ask(bell, 0, "first dries=1"), 4);
        Check.same("four till 50", Check.ask(bell, 0, "total dries"), 3);
        bell = Check.of(TWO + "learn points+1;");
        bell.watch(0, 1);
        Check.same("behind that HOUR", Check.ask(bell, 0, "most points 1"), 47);
        Check.same("refusals are not counted", bell.status(1), 0);
    }

    private static int[] imageOf(NoonBell bell) {
        int[] bytes = new int[bell.image()];
        for (int k = 0; k < bytes.length; k++) bytes[k] = bell.octet(k);
        return bytes;
    }

    private static int[] checked(int... bytes) {
        int check = 197;
        for (int k = 0; k < bytes.length - 1; k++) check = (3 * check + bytes[k]) % 251;
        bytes[bytes.length - 1] = check;
        return bytes;
    }

    private static void image() {
        NoonBell bell = Check.of(TWO + "knows b a 7;");
        bell.go(300);
        bell.call(1);
        bell.watch(1, 0);
        int[] due = checked(1, 44, 1, 0, 99, 0, 0, 1, 7, 99, 0);
        Check.same("how many", bell.image(), due.length);
        for (int k = 0; k < due.length; k++) Check.same("octet " + k, bell.octet(k), due[k]);
        Check.same("none such", bell.octet(due.length), NONE);
        Check.same("none such", bell.octet(-1), NONE);
        bell.go(1);
        Check.same("the latest image", bell.octet(1), 44);
        Check.same("refused", bell.status(5), 0);
        Check.same("image again", bell.image(), due.length);
        Check.same("the latest image", bell.octet(1), 45);
        StringBuilder text = new StringBuilder();
        for (int k = 0; k < 10; k++) text.append("person ").append((char) ('a' + k)).append(" ward 0;");
        bell = Check.of(text.append("knows j i 55;").toString());
        Check.same("the largest image", bell.image(), 123);
        Check.same("the last points but one", bell.octet(120), 55);
        Check.same("the last points", bell.octet(121), 99);
        Check.yes("its last byte", bell.octet(122) >= 0);
        Check.yes("is one", on(bell, imageOf(bell)));
    }

    private static boolean on(NoonBell bell, int... bytes) {
        bell.end(0);
        Check.feed(bell, 0, bytes);
        boolean answer = bell.on();
        Check.no("the tape goes", bell.end(1));
        return answer;
    }

    private static void on() {
        NoonBell bell = Check.of(ANN);
        bell.call(0);
        bell.watch(2, 0);
        bell.go(5);
        int[] image = imageOf(bell);
        bell.go(33);
        slipsOf(bell, 0, 6, 0, 1);
        Check.yes("on", on(bell, image));
        Check.same("HOUR", bell.has(3), 5);
        Check.same("away", bell.person(0, 1), NONE);
        Check.same("bob lives ann's", bell.person(1, 1), 0);
        Check.same("cid watches ann's", bell.person(2, 2), 0);
        int[][] points = {{99, 0, 0, 0}, {40, 99, 0, 0}, {50, 70, 99, 0}, {0, 0, 10, 99}};
        for (int p = 0; p < 4; p++) {
            for (int life = 0; life < 4; life++) Check.same("points", bell.points(p, life), points[p][life]);
        }
        Check.same("KEPT", bell.has(7), 0);
        Check.same("ACTS", bell.has(8), 0);
        Check.yes("SLIPS", bell.who() != NONE);
        bell = Check.of(TWO);
        bell.go(3);
        int[] good = {0, 7, 2, 2, 99, 5, 0, 1, 99, 99, 0};
        Check.yes("another one's LIFE", on(bell, checked(good.clone())));
        Check.same("a lives b's", bell.person(0, 1), 1);
        Check.same("elsewhere", bell.has(6), 1);
        Check.yes("LIVES changed", on(bell, checked(0, 7, 2, 0, 99, 5, 1, 0, 99, 99, 0)));
        Check.same("b's LIFE is left", bell.wave(0, 20), 1);
        Check.yes("two away", on(bell, checked(0, 7, 0, 0, 99, 5, 0, 0, 99, 99, 0)));
        Check.yes("HOUR 9999", on(bell, checked(39, 15, 1, 0, 99, 0, 2, 0, 0, 99, 0)));
        Check.same("HOUR", bell.has(3), 9999);
        bell.on();
        int[][] bad = {
            checked(39, 16, 1, 0, 99, 0, 2, 0, 0, 99, 0), checked(0, 7, 3, 0, 99, 0, 2, 0, 0, 99, 0),
            checked(0, 7, 2, 0, 99, 0, 2, 0, 0, 99, 0), checked(0, 7, 1, 0, 99, 0, 1, 0, 0, 99, 0), checked(0, 7, 1, 1, 99, 0, 2, 0, 0, 99, 0),
            checked(0, 7, 1, 3, 99, 0, 2, 0, 0, 99, 0), checked(0, 7, 1, 0, 98, 0, 2, 0, 0, 99, 0),
            checked(0, 7, 1, 0, 99, 100, 2, 0, 0, 99, 0), checked(0, 7, 1, 0, 99, 0, 2, 2, 0, 99, 0),
            checked(0, 7, 1, 0, 99, 0, 2, 0, 0, 99, 0, 0), checked(0, 7, 1, 0, 99, 0, 2, 0, 0, 0),
            {0, 7, 1, 0, 99, 0, 2, 0, 0, 99, 0}, checked(0, 7, 0), checked(0, 7, 255, 0, 99, 0, 2, 0, 0, 99, 0)};
        for (int k = 0; k < bad.length; k++) Check.no("bad image " + k, on(bell, bad[k]));
        Check.same("refused", bell.status(5), bad.length + 1);
        Check.same("all stays", bell.has(3), 9999);
    }

    private static void status() {
        NoonBell bell = Check.of(TWO);
        bell.end(-1);
        bell.city();
        Check.city(bell, "x");
        slipsOf(bell, 9);
        bell.go(0);
        bell.call(9);
        bell.bells(0);
        bell.watch(0, 0);
        bell.teach(0, 0, 0);
        bell.undo();
        bell.seed(-1);
        bell.on();
        bell.ask(0);
        bell.wave(9, 9);
        // two: end(-1), and slipsOf's own question whether the tape is gone
        int[] due = {2, 2, 3, 2, 1, 2};
        for (int what = 0; what < 6; what++) Check.same("status " + what, bell.status(what), due[what]);
        Check.same("others", bell.status(6), NONE);
        Check.same("others", bell.status(-1), NONE);
        Check.city(bell, TWO);
        Check.same("a city changes none", bell.status(2), 3);
    }

    public static void main(String[] args) {
        newObject();
        feedAndEnd();
        cityAndFault();
        has();
        letter();
        person();
        points();
        could();
        numbers();
        kept();
        hours();
        wave();
        would();
        first();
        best();
        study();
        change();
        ring();
        odds();
        go();
        call();
        watchAndTeach();
        bells();
        undo();
        seed();
        slipsAndWho();
        ask();
        image();
        on();
        status();
        Check.same("NONE", NoonBell.NONE, -1);
        Check.same("NOTHING", NoonBell.NOTHING, -1000000000000000L);
        Check.end("PromiseTest");
    }
}
