import java.util.function.Supplier;

/**
 * The sentences under the promises' own heads that name a boundary of what is told to a call, a
 * method each: at it, and one beyond it; what is refused counts and changes nothing else.
 */
final class CallEdgeTest {
    private static final int NONE = NoonBell.NONE;
    private static final int LEAST = Integer.MIN_VALUE;
    private static final int GREATEST = Integer.MAX_VALUE;
    private static final int[] NUMBERS = {LEAST, LEAST + 1, -1000, -21, -2, -1, 0, 1, 2, 3, 4, 5, 6, 7, 8, 9, 10, 19, 20, 21, 22, 23, 24,
        25, 31, 32, 39, 40, 41, 99, 100, 255, 256, 499, 500, 501, 1600, 9999, 10000, 65536, GREATEST - 1, GREATEST};
    private static final String TWO = "person a ward 1;person b ward 2;task t hard 9;";

    interface Asked {
        long of(NoonBell bell, int number);
    }

    private CallEdgeTest() {
    }

    private static boolean within(int number, int least, int most) {
        return number >= least && number <= most;
    }

    /** Each number from the least to the most is answered by other than NONE; all others by NONE. */
    private static void asked(String what, int least, int most, Asked call) {
        for (int number : NUMBERS) {
            String told = what + " of " + number;
            if (within(number, least, most)) Check.yes(told, call.of(Twins.rich(), number) != NONE);
            else Twins.none(told, bell -> call.of(bell, number));
        }
    }

    /** Each number but those from the least to the most is refused. */
    private static void refused(String what, int least, int most, long answer, int counts, Asked call) {
        for (int number : NUMBERS) {
            if (within(number, least, most)) continue;
            Twins.refused(what + " of " + number, bell -> call.of(bell, number), answer, counts);
        }
    }

    private static Supplier<NoonBell> at(String city, int hour) {
        return () -> {
            NoonBell bell = Check.of(city);
            for (int left = hour; left > 0; left -= 500) bell.go(Math.min(left, 500));
            return bell;
        };
    }

    /** A QUESTION, with blanks behind it up to so many bytes, on the tape. */
    private static Supplier<NoonBell> taped(int bytes) {
        return () -> {
            NoonBell bell = Twins.rich();
            Check.feed(bell, Twins.QUESTION + " ".repeat(bytes - Twins.QUESTION.length()));
            return bell;
        };
    }

    // ---- 1 to 5

    private static void newObject() {
        Check.sentence("1: Nobody, no TASKS");
        for (int k = 0; k < 9; k++) Check.same("has " + k, new NoonBell().has(k), 0);
        for (int k = 0; k < 6; k++) Check.same("status " + k, new NoonBell().status(k), 0);
        NoonBell bell = new NoonBell();
        for (int p = -1; p < 2; p++) {
            for (int k = -1; k < 8; k++) Check.same("person", bell.person(p, k), NONE);
            for (int life = -1; life < 2; life++) {
                Check.same("points", bell.points(p, life), NONE);
                Check.same("could", bell.could(p, life, 0, 0), NONE);
                Check.same("study", bell.study(p, life), NONE);
                Check.same("odds", bell.odds(p, life, 1), NONE);
            }
            Check.same("letter", bell.letter(0, p, 0) + bell.letter(1, p, 0), 2 * NONE);
            Check.same("wave", bell.wave(p, NONE) + bell.wave(p, 20), 2 * NONE);
            Check.same("would", bell.would(p, 0) + bell.would(p, 1), 2 * NONE);
            Check.same("best", bell.best(p, 0) + bell.best(p, 1), 2 * NONE);
            Check.same("ring", bell.ring(p), NONE);
            Check.same("first", bell.first(p), NONE);
            Check.same("change", bell.change(p), NONE);
            Check.same("kept", bell.kept(p, 0), NONE);
            Check.same("octet", bell.octet(p), NONE);
        }
        Check.same("who", bell.who(), NONE);
        Check.same("fault", bell.fault(0), 0);
        Check.same("place", bell.fault(1), NONE);
        for (int k = 0; k < 6; k++) Check.same("nothing is refused by asking", bell.status(k), 0);
        Check.same("the seed is 1", bell.bells(1), 24);
        for (int p = -1; p < 2; p++) {
            int one = p;
            Twins.refused("call of nobody", NoonBell::new, b -> b.call(one), NONE, 2);
            Twins.refused("watch by nobody", NoonBell::new, b -> b.watch(one, NONE) ? 1 : 0, 0, 3);
            Twins.refused("teach of nobody", NoonBell::new, b -> b.teach(one, 0, 0), NONE, 3);
            Twins.refusedWithTape("slips of nobody", NoonBell::new, b -> Twins.slips(b, one, 0, 0, 0), NONE, 1);
        }
        Twins.refused("undo of nothing", NoonBell::new, b -> b.undo() ? 1 : 0, 0, 4);
    }

    private static void feed() {
        Check.sentence("2: Twenty bytes: how many there are; NONE, refused (0), if there would be more than 1600");
        NoonBell bell = new NoonBell();
        for (int k = 1; k <= 80; k++) Check.same("how many", bell.feed(k, k, k, k, k), 20 * k);
        Check.same("one beyond", bell.feed(1, 1, 1, 1, 1), NONE);
        Check.same("refused", bell.status(0), 1);
        for (int bytes : new int[] {1581, 1590, 1599, 1600}) {
            Twins.refused("feed behind " + bytes, taped(bytes), one -> one.feed(-1, -1, -1, -1, -1), NONE, 0);
        }
        Check.same("behind 1580", taped(1580).get().feed(0, 0, 0, 0, 0), 1600);
        Check.same("behind 1579", taped(1579).get().feed(0, 0, 0, 0, 0), 1599);
        Check.same("behind none", new NoonBell().feed(LEAST, GREATEST, -1, 0, 1), 20);
        Check.sentence("2: of each number the highest byte first");
        // an image of nobody: HOUR, and its check; the numbers' other bytes are cut
        for (int hour : new int[] {0, 1, 255, 256, 0x270f}) {
            int[] image = Twins.checked(hour >> 8, hour & 255, 0);
            bell = new NoonBell();
            bell.feed(image[0] << 24 | image[1] << 16 | image[2] << 8 | 255, -1, -1, -1, -1);
            bell.end(3);
            Check.yes("on", bell.on());
            Check.same("HOUR", bell.has(3), hour);
        }
        bell = new NoonBell();
        bell.feed(0x70657273, 0x6f6e2061, 0x62636420, 0x77617264, 0x2037203b);
        Check.same("each of the five numbers", bell.city(), 1);
        Check.same("its fourth letter", bell.letter(0, 0, 3), 4);
        Check.same("its ward", bell.person(0, 0), 7);
        // behind those on the tape
        bell.feed(0x70657273, 0x6f6e2061, 0x20776172, 0x6420313b, 0x78787878);
        bell.end(16);
        bell.feed(0x70657273, 0x6f6e2062, 0x20776172, 0x6420323b, 0x20202020);
        Check.same("behind those on the tape", bell.city(), 2);
        Check.same("the second one's ward", bell.person(1, 0), 2);
    }

    private static void end() {
        Check.sentence("3: its first n bytes alone: true; false, refused (0), if it has not so many, or n is below 0");
        int size = Twins.QUESTION.length();
        for (int n : new int[] {LEAST, -2, -1, size + 1, size + 20, 1600, 1601, GREATEST}) {
            Twins.refused("end " + n, bell -> bell.end(n) ? 1 : 0, 0, 0);
        }
        for (int n : new int[] {0, 1, size - 1, size}) {
            NoonBell bell = Twins.rich();
            Check.yes("end " + n, bell.end(n));
            Check.same("nothing refused", bell.status(0), 0);
            Check.same("so many", bell.feed(0, 0, 0, 0, 0), n + 20);
        }
        NoonBell bell = new NoonBell();
        Check.yes("none of none", bell.end(0));
        Check.no("one of none", bell.end(1));
        Check.same("refused", bell.status(0), 1);
        bell = taped(1600).get();
        Check.yes("all 1600", bell.end(1600));
        Twins.refused("1601 of 1600", taped(1600), one -> one.end(1601) ? 1 : 0, 0, 0);
        Check.yes("the first ones stay", bell.end(size));
        Check.same("the first ones stay", bell.ask(0), Twins.rich().ask(0));
    }

    // ---- 6 to 11

    private static void whatThereIs() {
        Check.sentence("6: NONE for others");
        asked("has", 0, 8, (bell, n) -> bell.has(n));
        Check.sentence("7: Letter k (0 .. 5): 1 .. 26; 0 behind it; NONE when there is none such");
        asked("letter's kind", 0, 1, (bell, n) -> bell.letter(n, 0, 0));
        asked("letter of one of the PEOPLE", 0, 3, (bell, n) -> bell.letter(0, n, 0));
        asked("letter of a TASK", 0, 1, (bell, n) -> bell.letter(1, n, 0));
        asked("letter of a NAME of three", 0, 5, (bell, n) -> bell.letter(0, 0, n));
        asked("letter of a NAME of four", 0, 5, (bell, n) -> bell.letter(1, 1, n));
        NoonBell bell = Check.of("person a ward 1;person zabcde ward 1;task azazaz hard 1;task z hard 1;");
        int[][] due = {{1, 0, 0, 0, 0, 0}, {26, 1, 2, 3, 4, 5}, {1, 26, 1, 26, 1, 26}, {26, 0, 0, 0, 0, 0}};
        for (int k = 0; k < 4; k++) {
            for (int j = 0; j < 6; j++) Check.same("letter " + j + " of " + k, bell.letter(k / 2, k % 2, j), due[k][j]);
        }
        Check.sentence("8: NONE when there is none such, or for others");
        asked("ward of a person", 0, 3, (one, n) -> one.person(n, 0));
        asked("DUTIES of a person", 0, 3, (one, n) -> one.person(n, 5));
        for (int what : NUMBERS) {
            if (!within(what, 0, 6)) Twins.none("person, what " + what, one -> one.person(0, what));
            for (int p : new int[] {-1, 4, GREATEST, LEAST}) Check.same("person " + p, Twins.rich().person(p, what), NONE);
        }
        Check.same("away: lives none", Twins.rich().person(2, 1), NONE);
        Check.same("watches none", Twins.rich().person(0, 2), NONE);
        Check.same("covers none", Twins.rich().person(0, 3), NONE);
        Check.same("covered by none", Twins.rich().person(3, 4), NONE);
        Check.same("no DUTIES", Twins.rich().person(3, 5), 0);
        Check.same("lived by nobody", Twins.rich().person(3, 6), NONE);
        Check.sentence("9: Points of one of a LIFE; NONE when there are none such");
        asked("points of", 0, 3, (one, n) -> one.points(n, 0));
        asked("points of a LIFE", 0, 3, (one, n) -> one.points(0, n));
    }

    private static void could() {
        Check.sentence("10: could do a TASK of a LIFE at a clock (0 .. 23): 1, 0; NONE when there are none such");
        asked("could, who", 0, 3, (bell, n) -> bell.could(n, 0, 0, 0));
        asked("could, LIFE", 0, 3, (bell, n) -> bell.could(0, n, 0, 0));
        asked("could, TASK", 0, 1, (bell, n) -> bell.could(0, 0, n, 0));
        asked("could, clock", 0, 23, (bell, n) -> bell.could(0, 0, 0, n));
        Check.same("without TASKS", Check.of("person a ward 1;").could(0, 0, 0, 0), NONE);
        NoonBell bell = Check.of(TWO + "can points>49 and clock=23 or clock=0;knows a b 50;");
        Check.same("at 23", bell.could(0, 1, 0, 23), 1);
        Check.same("at 22", bell.could(0, 1, 0, 22), 0);
        Check.same("at 0", bell.could(1, 0, 0, 0), 1);
        bell.teach(0, 1, 49);
        Check.same("by his points of now", bell.could(0, 1, 0, 23), 0);
        bell.call(0);
        Check.same("though away", bell.could(0, 0, 0, 23), 1);
    }

    private static void kept() {
        Check.sentence("11: the k-th from the oldest on; NONE when there is none such, or for others");
        int told = Twins.rich().has(7);
        Check.yes("there are some", told > 3 && told < 39);
        for (int what = 0; what < 3; what++) {
            int one = what;
            asked("kept, what " + what, 0, told - 1, (bell, n) -> bell.kept(n, one));
        }
        asked("kept of the oldest", 0, 2, (bell, n) -> n == 3 ? NONE : bell.kept(0, n));
        for (int k : new int[] {-1, told, told + 1, 40, GREATEST, LEAST}) Twins.none("kept " + k, bell -> bell.kept(k, 3));
        NoonBell bell = Check.of(TWO);
        Check.same("the 0-th of none", bell.kept(0, 0), NONE);
        bell = Check.of(TWO + "does a t at 1;can not all;");
        bell.go(1);
        Check.same("the 0-th of one", bell.kept(0, 0), 1);
        Check.same("the next one", bell.kept(1, 0), NONE);
    }

    // ---- 12 to 19

    private static void waves() {
        Check.sentence("12: how many (k NONE), the k-th, the LIFE left (20). NONE when he is away, there is none such, or for others");
        for (int k : NUMBERS) {
            if (k == NONE || k == 20) Check.yes("wave " + k, Twins.rich().wave(0, k) != NONE);
            else if (k != 0) Twins.none("wave of ann, k " + k, bell -> bell.wave(0, k));
            Twins.none("wave of cid, who is away, k " + k, bell -> bell.wave(2, k));
            for (int p : new int[] {-1, 4, GREATEST}) Check.same("wave of " + p, Twins.rich().wave(p, k), NONE);
        }
        NoonBell bell = Twins.rich();
        Check.same("ann: bob goes on, cid is away", bell.wave(0, NONE), 1);
        Check.same("bob", bell.wave(0, 0), 1);
        Check.same("no second one", bell.wave(0, 1), NONE);
        Check.same("bob's LIFE", bell.wave(0, 20), 1);
        Check.same("nobody goes on for dan: cid's LIFE", bell.wave(3, NONE), 0);
        Check.same("not the 0-th either", bell.wave(3, 0), NONE);
        Check.same("cid's LIFE", bell.wave(3, 20), 2);
        Check.sentence("13: LEFT (what 0), DRIED (1). NONE when he is away, there is none such, or for others");
        asked("would, what", 0, 1, (one, n) -> one.would(0, n));
        asked("would of", 0, 3, (one, n) -> n == 2 ? 0 : one.would(n, 0));
        for (int what : new int[] {-1, 0, 1, 2}) Twins.none("would of one away", one -> one.would(2, what));
        Check.sentence("14: NONE without, or for others");
        asked("first", 0, 2, (one, n) -> one.first(n));
        for (int what : NUMBERS) Check.same("without", Check.of(TWO).first(what), NONE);
    }

    private static void bests() {
        Check.sentence("15: who (what 0), how many DUTIES (1). NONE without another one, when there is none such, or for others");
        asked("best, what", 0, 1, (bell, n) -> bell.best(0, n));
        asked("best for", 0, 3, (bell, n) -> bell.best(n, 0));
        for (int what : new int[] {-1, 0, 1, 2}) Check.same("one alone", Check.of("person a ward 1;").best(0, what), NONE);
        Check.sentence("16: NONE when 99 are not enough, it is his own, or there are none such");
        asked("study by", 0, 3, (bell, n) -> n == 3 ? 0 : bell.study(n, 3));
        asked("study for", 0, 3, (bell, n) -> n == 2 ? 0 : bell.study(2, n));
        for (int p = 0; p < 4; p++) {
            int one = p;
            Twins.none("study for his own", bell -> bell.study(one, one));
            Twins.none("odds for his own", bell -> bell.odds(one, one, 1));
        }
        Check.sentence("17: how many DUTIES are DRIED (k NONE), who lives LIFE k. NONE with fewer than two PEOPLE, or for others");
        asked("change", NONE, 3, (bell, n) -> bell.change(n));
        for (int k : NUMBERS) Check.same("one alone", Check.of("person a ward 1;").change(k), NONE);
        Check.sentence("18: NONE when there is none such");
        asked("ring", 0, 3, (bell, n) -> bell.ring(n));
        Check.sentence("19: by n CALLS (0 .. 4), in thousandths; NONE when there are none such, it is his own, or n can't be");
        asked("odds by", 0, 4, (bell, n) -> bell.odds(0, 1, n));
        asked("odds for", 0, 3, (bell, n) -> n == 3 ? 0 : bell.odds(n, 3, 1));
        asked("odds for a LIFE", 0, 3, (bell, n) -> n == 0 ? 0 : bell.odds(0, n, 1));
    }

    // ---- 20 to 26

    private static void going() {
        Check.sentence("20: n HOURS come (1 .. 500): the HOUR then; NONE, refused (2), when it can't be");
        refused("go", 1, 500, NONE, 2, (bell, n) -> bell.go(n));
        int now = Twins.rich().has(3);
        Check.same("HOUR", now, 59);
        for (int n : new int[] {1, 2, 499, 500}) {
            NoonBell bell = Twins.rich();
            Check.same("go " + n, bell.go(n), now + n);
            Check.same("refused", bell.status(2), 0);
            Check.same("one ACT", bell.has(8), Twins.rich().has(8) + 1);
        }
        Check.same("to 9999", at(TWO, 9499).get().go(500), 9999);
        Twins.refused("one above", at(TWO, 9500), bell -> bell.go(500), NONE, 2);
        Twins.refused("one above", at(TWO, 9999), bell -> bell.go(1), NONE, 2);
        Twins.refused("above by wrap-around", at(TWO, 9999), bell -> bell.go(GREATEST), NONE, 2);
        Check.sentence("21: NONE, refused (2), when he is away, or there is none such");
        refused("call", 0, 3, NONE, 2, (bell, n) -> bell.call(n));
        Twins.refused("call of cid, who is away", bell -> bell.call(2), NONE, 2);
        Check.same("call of ann", Twins.rich().call(0), 1);
        Check.same("call of dan", Twins.rich().call(3), 0);
    }

    private static void watching() {
        Check.sentence("22: true; false, refused (3), when there are none such, it is his own, or it is so already");
        refused("watch by", 0, 3, 0, 3, (bell, n) -> bell.watch(n, 2) ? 1 : 0);
        refused("watch none, by", 0, 3, 0, 3, (bell, n) -> bell.watch(n, NONE) ? 1 : 0);
        refused("watch", NONE, 3, 0, 3, (bell, n) -> bell.watch(3, n) ? 1 : 0);
        for (int p = 0; p < 4; p++) {
            int one = p;
            Twins.refused("watch his own", bell -> bell.watch(one, one) ? 1 : 0, 0, 3);
        }
        Twins.refused("bob watches ann already", bell -> bell.watch(1, 0) ? 1 : 0, 0, 3);
        Twins.refused("dan watches bob already", bell -> bell.watch(3, 1) ? 1 : 0, 0, 3);
        Twins.refused("ann watches none already", bell -> bell.watch(0, NONE) ? 1 : 0, 0, 3);
        NoonBell bell = Twins.rich();
        for (int life : new int[] {1, 2, 0, NONE}) {
            Check.yes("dan watches " + life, life == 1 || bell.watch(3, life));
            Check.same("dan watches " + life, bell.person(3, 2), life);
        }
        Check.yes("cid, though away", bell.watch(2, 3));
        Check.same("refused", bell.status(3), 0);
        Check.sentence("23: Points of another one's LIFE are n (0 .. 99): what they were; NONE, refused (3), when something can't be");
        refused("teach", 0, 3, NONE, 3, (one, n) -> one.teach(n, 2, 5));
        refused("teach of a LIFE", 0, 3, NONE, 3, (one, n) -> one.teach(3, n, 5));
        refused("teach to", 0, 99, NONE, 3, (one, n) -> one.teach(3, 2, n));
        for (int p = 0; p < 4; p++) {
            int one = p;
            Twins.refused("teach his own", b -> b.teach(one, one, 99), NONE, 3);
        }
        bell = Check.of(TWO);
        int were = 0;
        for (int n : new int[] {0, 1, 98, 99, 99, 0}) {
            Check.same("what they were", bell.teach(1, 0, n), were);
            Check.same("are", bell.points(1, 0), n);
            were = n;
        }
        Check.same("ACTS", bell.has(8), 6);
    }

    private static void ringing() {
        Check.sentence("24: n DAYS (1 .. 20), one ACT: the HOUR then; NONE, refused (2), when it can't be");
        refused("bells", 1, 20, NONE, 2, (bell, n) -> bell.bells(n));
        for (int n : new int[] {1, 2, 19, 20}) {
            NoonBell bell = Twins.rich();
            Check.same("HOUR", bell.bells(n), 72 + 24 * n - (59 % 24 < 12 ? 24 : 0));
            Check.same("one ACT", bell.has(8), Twins.rich().has(8) + 1);
            bell.undo();
            Check.same("HOUR", bell.has(3), 59);
        }
        Check.sentence("26: The seed: true; false, refused (5), when it is below 0. (It is 1 at first.)");
        for (int seed : new int[] {LEAST, LEAST + 1, -1000, -2, -1}) {
            Twins.refused("seed " + seed, bell -> bell.seed(seed) ? 1 : 0, 0, 5);
        }
        for (int seed : new int[] {0, 1, 2, GREATEST - 1, GREATEST}) {
            NoonBell bell = Twins.rich();
            Check.yes("seed " + seed, bell.seed(seed));
            Check.same("refused", bell.status(5), 0);
            Check.same("no ACT", bell.has(8), Twins.rich().has(8));
        }
        String city = "person a ward 1;person b ward 1;person c ward 1;task t hard 1;does a t at 13;does b t at 13;does c t at 13;";
        NoonBell bell = Check.of(city);
        NoonBell other = Check.of(city);
        other.seed(1);
        bell.bells(20);
        other.bells(20);
        for (int day = 0; day < 20; day++) Check.same("1 at first", bell.kept(day, 2), other.kept(day, 2));
    }

    private static void seedStays() {
        Check.sentence("25: The latest ACT is undone (the seed stays)");
        String city = "person a ward 1;person b ward 1;person c ward 1;task t hard 1;does a t at 13;does b t at 13;does c t at 13;";
        NoonBell bell = Check.of(city);
        NoonBell other = Check.of(city);
        other.bells(20);
        other.bells(10);
        bell.bells(20);
        bell.undo();
        bell.bells(10);
        for (int day = 0; day < 10; day++) Check.same("as by the 21st DRAW on", bell.kept(day, 2), other.kept(day + 20, 2));
        bell.undo();
        Check.no("no more", bell.undo());
        Check.same("KEPT is as it was", bell.has(7), 0);
        // all but the seed, the tape, SLIPS and the image is as it was
        bell = Twins.rich();
        NoonBell was = Twins.rich();
        bell.bells(2);
        bell.call(0);
        bell.watch(0, 1);
        bell.teach(0, 2, 44);
        bell.go(99);
        for (int k = 0; k < 5; k++) Check.yes("undo", bell.undo());
        for (int k = 0; k < 9; k++) Check.same("has " + k, bell.has(k), was.has(k));
        for (int p = 0; p < 4; p++) {
            for (int what = 0; what < 7; what++) Check.same("person", bell.person(p, what), was.person(p, what));
            for (int life = 0; life < 4; life++) Check.same("points", bell.points(p, life), was.points(p, life));
        }
        for (int k = 0; k < was.has(7); k++) {
            for (int what = 0; what < 4; what++) Check.same("kept", bell.kept(k, what), was.kept(k, what));
        }
        Check.same("SLIPS", bell.who(), was.who());
        for (int k = 0; k < 28; k++) Check.same("the image", bell.octet(k), was.octet(k));
        Check.same("the tape", bell.ask(0), was.ask(0));
    }

    // ---- 27 to 29

    private static void slips() {
        Check.sentence("27: 1 to 20 rows of three bytes, clock, TASK, 1 if it was done, else 0: how many; NONE, refused (1), all staying, when it is none such");
        int[][] bad = {{}, {6}, {6, 0}, {6, 0, 1, 6}, {6, 0, 1, 6, 0}, new int[59], new int[61], new int[62], new int[63], new int[600],
            {24, 0, 0}, {25, 0, 0}, {255, 0, 0}, {0, 2, 0}, {0, 255, 0}, {0, 0, 2}, {0, 0, 255}, {0, 0, 0, 24, 0, 0}, {0, 0, 0, 0, 2, 0}, {0, 0, 0, 0, 0, 2},
            {24, 0, 0, 0, 0, 0}, {0, 2, 0, 0, 0, 0}, {0, 0, 2, 0, 0, 0}};
        for (int[] bytes : bad) Twins.refusedWithTape("slips of " + bytes.length + " bytes", bell -> Twins.slips(bell, 0, bytes), NONE, 1);
        for (int life : NUMBERS) {
            if (!within(life, 0, 3)) Twins.refusedWithTape("slips of LIFE " + life, bell -> Twins.slips(bell, life, 6, 0, 1), NONE, 1);
            else Check.same("slips of LIFE " + life, Twins.slips(Twins.rich(), life, 6, 0, 1), 1);
        }
        int[][] good = {{0, 0, 0}, {23, 1, 1}, {23, 0, 0, 0, 1, 1}, new int[57], new int[60]};
        for (int[] bytes : good) {
            NoonBell bell = Twins.rich();
            Check.same("rows", Twins.slips(bell, 0, bytes), bytes.length / 3);
            Check.same("refused", bell.status(1), 0);
            Check.no("the tape goes", bell.end(1));
        }
        // the 20th row counts
        int[] twenty = new int[60];
        for (int k = 0; k < 20; k++) twenty[3 * k + 2] = 1;
        NoonBell bell = Check.of(TWO + "can points>9 or clock=0;knows b a 10;");
        Check.same("twenty", Twins.slips(bell, 0, twenty), 20);
        Check.same("both", bell.who(), 3);
        twenty[57] = 1;
        bell.teach(1, 0, 9);
        Check.same("twenty", Twins.slips(bell, 0, twenty), 20);
        Check.same("a alone", bell.who(), 1);
        Twins.refusedWithTape("slips without TASKS", () -> Check.of("person a ward 1;"), one -> Twins.slips(one, 0, 0, 0, 0), NONE, 1);
        Check.sentence("28: NONE when no SLIPS are told");
        Check.same("ahead of any", Check.of(TWO).who(), NONE);
        bell = Check.of(TWO);
        Twins.slips(bell, 0, 24, 0, 0);
        Check.same("behind what was refused", bell.who(), NONE);
        Twins.slips(bell, 0, 23, 0, 0);
        Check.same("none of them: 0, not NONE", bell.who(), 0);
        bell = Twins.rich();
        Check.city(bell, "x");
        Check.yes("behind a FAULT they stay", bell.who() != NONE);
        Check.city(bell, "");
        Check.same("behind a CITY they are gone", bell.who(), NONE);
    }

    private static void asking() {
        Check.sentence("29: NOTHING ... (the tape goes, nothing else is done, fault() stays) when there is none such");
        for (int p : NUMBERS) {
            for (String text : new String[] {"total 1", "total", "x", ""}) {
                if (!within(p, 0, 3)) Twins.refusedWithTape("ask of " + p, bell -> Check.ask(bell, p, text), NoonBell.NOTHING, NONE);
            }
            if (within(p, 0, 3)) Check.same("ask of " + p, Check.ask(Twins.rich(), p, "total 1"), 48);
        }
        NoonBell bell = Twins.rich();
        Check.ask(bell, 0, "total 1;");
        Check.same("a FAULT", bell.fault(1), 7);
        Check.ask(bell, 4, "total 1");
        Check.same("fault() stays", bell.fault(0), 1);
        Check.same("fault() stays", bell.fault(1), 7);
        Check.no("the tape goes", bell.end(1));
        Check.sentence("29: NONE of first, last, when its TEST holds in none");
        Check.same("first", Check.ask(bell, 0, "first not all"), NONE);
        Check.same("last", Check.ask(bell, 0, "last not all"), NONE);
        Check.same("often", Check.ask(bell, 0, "often not all"), 0);
        Check.same("no FAULT", bell.fault(0), 0);
        for (int k = 0; k < 6; k++) Check.same("nothing is refused", bell.status(k), k == 0 ? 1 : 0);
    }

    // ---- 30 to 33

    private static String people(int n) {
        StringBuilder text = new StringBuilder();
        for (int k = 0; k < n; k++) text.append("person ").append((char) ('a' + k)).append(" ward 1;");
        return text.toString();
    }

    private static void images() {
        Check.sentence("IV: AN IMAGE: HOUR (two bytes, the higher first); LIFE and 1, watched and 1, points; last a byte; 31: NONE when there is none such");
        int[] sizes = {3, 6, 11, 18, 27, 38, 51, 66, 83, 102, 123};
        for (int n = 0; n <= 10; n++) {
            NoonBell bell = Check.of(people(n));
            Check.same("ahead of any", bell.octet(0), NONE);
            Check.same("bytes of " + n, bell.image(), sizes[n]);
            int[] due = new int[sizes[n]];
            for (int p = 0; p < n; p++) {
                due[2 + p * (n + 2)] = p + 1;
                due[2 + p * (n + 2) + 2 + p] = 99;
            }
            Twins.checked(due);
            for (int k = 0; k < due.length; k++) Check.same("octet " + k + " of " + n, bell.octet(k), due[k]);
            for (int k : new int[] {-1, due.length, due.length + 1, 123, GREATEST, LEAST}) {
                if (k < 0 || k >= due.length) Check.same("octet " + k, bell.octet(k), NONE);
            }
            Check.yes("is one", Twins.on(bell, due));
        }
        for (int hour : new int[] {0, 1, 255, 256, 257, 511, 512, 9983, 9984, 9999}) {
            NoonBell bell = at(TWO, hour).get();
            bell.image();
            Check.same("the higher byte of " + hour, bell.octet(0), hour / 256);
            Check.same("the lower byte of " + hour, bell.octet(1), hour % 256);
            int[] bytes = Twins.imageOf(bell);
            int last = bytes[bytes.length - 1];
            Check.same("c = (3 c + it) mod 251", last, Twins.checked(bytes.clone())[bytes.length - 1]);
            Check.yes("below 251", last >= 0 && last < 251);
        }
        NoonBell bell = Check.of(people(10));
        bell.watch(0, 9);
        bell.watch(9, 0);
        bell.call(4);
        bell.image();
        Check.same("the greatest watched", bell.octet(3), 10);
        Check.same("the first watched", bell.octet(2 + 9 * 12 + 1), 1);
        Check.same("away", bell.octet(2 + 4 * 12), 0);
        Check.same("watches none", bell.octet(2 + 4 * 12 + 1), 0);
        asked("octet", 0, 26, (one, n) -> one.octet(n));
        Check.sentence("31: of the latest image()");
        bell.go(300);
        Check.same("not of now", bell.octet(0), 0);
        Check.city(bell, TWO);
        Check.same("a city() changes it not", bell.octet(3), 10);
        Check.same("a shorter one", bell.image(), 11);
        Check.same("its end", bell.octet(11), NONE);
    }

    private static void taken() {
        Check.sentence("32: AN IMAGE of this CITY (HOURS 9999, points 99 at most, 99 of one's own LIFE; LIVES that there are, none lived by two; nobody watches his own)");
        int[][] good = {{0, 0, 1, 0, 99, 0, 2, 0, 0, 99, 0}, {39, 15, 1, 0, 99, 0, 2, 0, 0, 99, 0}, {0, 255, 2, 2, 99, 99, 1, 1, 99, 99, 0},
            {1, 0, 0, 0, 99, 5, 0, 0, 6, 99, 0}, {38, 255, 0, 2, 99, 1, 1, 0, 98, 99, 0}, {9, 9, 2, 0, 99, 0, 0, 1, 0, 99, 0}};
        for (int[] bytes : good) {
            NoonBell bell = at(TWO, 30).get();
            bell.call(0);
            Check.yes("on", Twins.on(bell, Twins.checked(bytes)));
            Check.same("HOUR", bell.has(3), bytes[0] * 256 + bytes[1]);
            for (int p = 0; p < 2; p++) {
                Check.same("lives", bell.person(p, 1), bytes[2 + 4 * p] - 1);
                Check.same("watches", bell.person(p, 2), bytes[3 + 4 * p] - 1);
                for (int life = 0; life < 2; life++) Check.same("points", bell.points(p, life), bytes[4 + 4 * p + life]);
            }
            Check.same("nothing is KEPT or can be undone", bell.has(7) + bell.has(8), 0);
            Check.same("refused", bell.status(5), 0);
            Check.no("the tape goes", bell.end(1));
        }
    }

    private static void notTaken() {
        Check.sentence("32: false, refused (5), when it is none, all staying");
        int[] image = Twins.imageOf(Twins.rich());
        int[] short3 = Twins.checked(java.util.Arrays.copyOf(image, image.length - 1));
        int[] long3 = Twins.checked(java.util.Arrays.copyOf(image, image.length + 1));
        none("a byte less", short3);
        none("a byte more", long3);
        none("no byte");
        none("one byte", 197);
        none("nobody's", Twins.checked(0, 5, 0));
        // the check one off, and, where a byte can, 251 off
        none("the check", with(image, image.length - 1, (image[image.length - 1] + 1) % 251, false));
        none("the check", with(image, image.length - 1, image[image.length - 1] + 5, false));
        for (int hour = 0; hour < 251; hour++) {
            int[] one = with(image, 1, hour, true);
            int check = one[one.length - 1];
            if (check < 5) none("the check and 251", with(one, one.length - 1, check + 251, false));
        }
        int[] end = with(with(image, 0, 39, true), 1, 15, true);
        Check.yes("HOUR 9999", Twins.on(Twins.rich(), end));
        none("HOUR 10000", with(end, 1, 16, true));
        none("HOUR 10240", with(with(end, 0, 40, true), 1, 0, true));
        none("HOUR 65535", with(with(end, 0, 255, true), 1, 255, true));
        byPerson(image);
    }

    /** For each of the PEOPLE: LIVES, watched, points at their boundary and one beyond it. */
    private static void byPerson(int[] image) {
        for (int p = 0; p < 4; p++) {
            int at = 2 + p * 6;
            int[] alone = image.clone();
            for (int q = 0; q < 4; q++) alone[2 + q * 6] = 0;
            for (int life = 0; life <= 4; life++) Check.yes("LIFE " + life, Twins.on(Twins.rich(), with(alone, at, life, true)));
            none("LIFE 5", with(alone, at, 5, true));
            none("LIFE 255", with(alone, at, 255, true));
            for (int q = 0; q < 4; q++) {
                for (int life = 1; life <= 4 && q != p; life++) {
                    none("lived by two", with(with(alone, at, life, true), 2 + q * 6, life, true));
                }
            }
            for (int life = 0; life <= 4; life++) {
                int[] one = with(image, at + 1, life, true);
                if (life == p + 1) none("watches his own", one);
                else Check.yes("watches " + life, Twins.on(Twins.rich(), one));
            }
            none("watches 5", with(image, at + 1, 5, true));
            none("watches 255", with(image, at + 1, 255, true));
            for (int life = 0; life < 4; life++) {
                int points = at + 2 + life;
                none("points 100", with(image, points, 100, true));
                none("points 255", with(image, points, 255, true));
                Check.yes("points 99", Twins.on(Twins.rich(), with(image, points, 99, true)));
                if (life == p) none("98 of his own", with(image, points, 98, true));
                else Check.yes("points 0", Twins.on(Twins.rich(), with(image, points, 0, true)));
                if (life == p) none("0 of his own", with(image, points, 0, true));
            }
        }
    }

    private static int[] with(int[] image, int k, int value, boolean checked) {
        int[] bytes = image.clone();
        bytes[k] = value;
        return checked ? Twins.checked(bytes) : bytes;
    }

    private static void none(String what, int... bytes) {
        Twins.refusedWithTape("on() of an image: " + what, bell -> Twins.on(bell, bytes) ? 1 : 0, 0, 5);
    }

    private static void status() {
        Check.sentence("33: How many were refused; NONE for others");
        asked("status", 0, 5, (bell, n) -> bell.status(n));
        NoonBell bell = Twins.rich();
        for (int k = 1; k <= 3; k++) {
            bell.end(-1);
            Check.city(bell, "x");
            Twins.slips(bell, 0);
            bell.go(0);
            bell.call(4);
            bell.bells(0);
            bell.watch(0, 0);
            bell.teach(0, 0, 0);
            bell.seed(-1);
            bell.on();
            int[] due = {k, 2 * k, 3 * k, 2 * k, 0, 2 * k};
            for (int what = 0; what < 6; what++) Check.same("status " + what, bell.status(what), due[what]);
        }
        int acts = bell.has(8);
        for (int k = 0; k < acts + 2; k++) bell.undo();
        Check.same("undo()", bell.status(4), 2);
        Check.city(bell, TWO);
        Check.same("a CITY leaves them", bell.status(4), 2);
        Twins.on(bell, Twins.imageOf(bell));
        Check.same("an image leaves them", bell.status(5), 6);
        Check.sentence("The constants");
        Check.same("NONE", NoonBell.NONE, -1);
        Check.same("NOTHING", NoonBell.NOTHING, -1000000000000000L);
    }

    public static void main(String[] args) {
        newObject();
        feed();
        end();
        whatThereIs();
        could();
        kept();
        waves();
        bests();
        going();
        watching();
        ringing();
        seedStays();
        slips();
        asking();
        images();
        taken();
        notTaken();
        status();
        Check.end("CallEdgeTest");
    }
}
