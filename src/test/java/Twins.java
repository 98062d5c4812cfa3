import java.util.ArrayList;
import java.util.List;
import java.util.function.Supplier;

/**
 * Objects made alike, of which one is asked what is refused: it has to count what the document
 * says, and to be in all else like the one that was not asked, in what comes later too. Each of
 * them is made anew for what is looked at, so that none is used for more than 512 calls.
 */
final class Twins {
    private static final int NONE = NoonBell.NONE;
    static final String CITY = "person ann ward 1;person bob ward 1;person cid ward 2;person dan ward 2;"
            + "task bake hard 30;task pray hard 60;does ann bake at 6;does ann pray at 20;does bob pray at 13;"
            + "does cid bake at 6;does cid bake at 15;covers bob ann;covers cid bob;covers dan cid;"
            + "knows bob ann 40;knows cid bob 70;knows dan cid 10;learn points+10+same*5;forget points-points/10;"
            + "can points>hard or own=1;notice theirs<points or same=1;";
    /** What stands on the tape of rich(). */
    static final String QUESTION = "total hour*points 0+life";

    interface Call {
        long on(NoonBell bell);
    }

    private Twins() {
    }

    /** HOUR 59, cid away, dan in his LIFE, some watched, taught, KEPT; SLIPS, an image, a QUESTION on the tape. */
    static NoonBell rich() {
        NoonBell bell = Check.of(CITY);
        bell.seed(4711);
        bell.watch(1, 0);
        bell.teach(0, 3, 33);
        bell.call(0);
        bell.call(3);
        bell.bells(2);
        bell.call(2);
        bell.watch(3, 1);
        bell.go(9);
        slips(bell, 0, 6, 0, 1, 20, 1, 1);
        bell.image();
        bell.go(2);
        Check.feed(bell, QUESTION);
        return bell;
    }

    static int slips(NoonBell bell, int life, int... bytes) {
        bell.end(0);
        Check.feed(bell, 0, bytes);
        return bell.slips(life);
    }

    static boolean on(NoonBell bell, int... bytes) {
        bell.end(0);
        Check.feed(bell, 0, bytes);
        return bell.on();
    }

    /** The bytes of an image, the last one set to what it has to be. */
    static int[] checked(int... bytes) {
        int check = 197;
        for (int k = 0; k < bytes.length - 1; k++) check = (3 * check + bytes[k]) % 251;
        bytes[bytes.length - 1] = check;
        return bytes;
    }

    static int[] imageOf(NoonBell bell) {
        int[] bytes = new int[bell.image()];
        for (int k = 0; k < bytes.length; k++) bytes[k] = bell.octet(k);
        return bytes;
    }

    /** Refused: NONE (or false, 0), one more of those that status(counts) tells; the tape stays. */
    static void refused(String what, Supplier<NoonBell> made, Call call, long answer, int counts) {
        asked(what, made, call, answer, counts);
        like(what, made, called(made, call));
    }

    static void refused(String what, Call call, long answer, int counts) {
        refused(what, Twins::rich, call, answer, counts);
    }

    /** As refused(), but for the tape: it goes. */
    static void refusedWithTape(String what, Supplier<NoonBell> made, Call call, long answer, int counts) {
        asked(what, made, call, answer, counts);
        like(what, withoutTape(made), called(made, call));
    }

    static void refusedWithTape(String what, Call call, long answer, int counts) {
        refusedWithTape(what, Twins::rich, call, answer, counts);
    }

    /** A text with a FAULT: fault() tells it, and all else is as it was, but for the tape. */
    static void faulty(String what, Supplier<NoonBell> made, Call call, long answer, int counts, int... fault) {
        asked(what, made, call, answer, counts);
        NoonBell bell = made.get();
        call.on(bell);
        for (int k = 0; k < 2; k++) Check.same("fault(" + k + ") of " + what, bell.fault(k), fault[k]);
        Call good = b -> Check.ask(b, 0, "total 1");
        like(what, called(withoutTape(made), good), called(called(made, call), good));
    }

    /** Asked alone, with NONE for what there is not: nothing is refused, nothing changes. */
    static void none(String what, Call call) {
        refused(what, Twins::rich, call, NONE, NONE);
    }

    private static Supplier<NoonBell> called(Supplier<NoonBell> made, Call call) {
        return () -> {
            NoonBell bell = made.get();
            call.on(bell);
            return bell;
        };
    }

    private static Supplier<NoonBell> withoutTape(Supplier<NoonBell> made) {
        return called(made, bell -> bell.end(0) ? 1 : 0);
    }

    private static void asked(String what, Supplier<NoonBell> made, Call call, long answer, int counts) {
        NoonBell bell = made.get();
        int[] before = new int[6];
        for (int k = 0; k < 6; k++) before[k] = bell.status(k);
        Check.same(what, call.on(bell), answer);
        for (int k = 0; k < 6; k++) {
            Check.same("status(" + k + ") behind " + what, bell.status(k), before[k] + (k == counts ? 1 : 0));
        }
    }

    private static void like(String what, Supplier<NoonBell> due, Supplier<NoonBell> got) {
        Check.alike("all stays by " + what, stands(got.get()), stands(due.get()));
        Check.alike("what lies ahead stays by " + what, ahead(got.get()), ahead(due.get()));
        Check.alike("the tape and the seed stay by " + what, goesOn(got.get()), goesOn(due.get()));
        Check.alike("what can be undone stays by " + what, goesBack(got.get()), goesBack(due.get()));
    }

    // ---- what is looked at

    private static void tell(List<String> all, String call, long answer) {
        all.add(call + " = " + answer);
    }

    private static List<String> stands(NoonBell bell) {
        List<String> all = new ArrayList<>();
        for (int k = 0; k < 2; k++) tell(all, "fault " + k, bell.fault(k));
        for (int k = 0; k < 9; k++) tell(all, "has " + k, bell.has(k));
        int people = bell.has(0);
        for (int p = 0; p < people; p++) {
            for (int what = 0; what < 7; what++) tell(all, "person " + p + " " + what, bell.person(p, what));
            for (int life = 0; life < people; life++) tell(all, "points " + p + " " + life, bell.points(p, life));
        }
        tell(all, "who", bell.who());
        for (int k = 0; k < 30; k++) tell(all, "octet " + k, bell.octet(k));
        int kept = bell.has(7);
        for (int k = 0; k < kept; k++) {
            for (int what = 0; what < 4; what++) tell(all, "kept " + k + " " + what, bell.kept(k, what));
        }
        return all;
    }

    private static List<String> ahead(NoonBell bell) {
        List<String> all = new ArrayList<>();
        int people = bell.has(0);
        int tasks = bell.has(1);
        for (int k = 0; k < people + tasks; k++) {
            int kind = k < people ? 0 : 1;
            for (int j = 0; j < 4; j++) tell(all, "letter " + k + " " + j, bell.letter(kind, k - kind * people, j));
        }
        for (int what = 0; what < 3; what++) tell(all, "first " + what, bell.first(what));
        for (int p = 0; p < people; p++) {
            for (int k = 0; k < 2; k++) {
                tell(all, "would " + p + " " + k, bell.would(p, k));
                tell(all, "best " + p + " " + k, bell.best(p, k));
            }
            tell(all, "wave " + p, bell.wave(p, NONE));
            tell(all, "wave's end " + p, bell.wave(p, 20));
            tell(all, "ring " + p, bell.ring(p));
            tell(all, "change " + p, bell.change(p));
        }
        for (int p = 0; p < Math.min(people, 4); p++) {
            for (int life = 0; life < Math.min(people, 4); life++) {
                tell(all, "study " + p + " " + life, bell.study(p, life));
                tell(all, "odds " + p + " " + life, bell.odds(p, life, 2));
                if (tasks > 0) tell(all, "could " + p + " " + life, bell.could(p, life, tasks - 1, 6));
            }
        }
        return all;
    }

    private static List<String> goesOn(NoonBell bell) {
        List<String> all = new ArrayList<>();
        int blanks = 0x20202020;
        tell(all, "feed", bell.feed(blanks, blanks, blanks, blanks, blanks));
        tell(all, "ask", bell.ask(0));
        tell(all, "place", bell.fault(1));
        tell(all, "bells", bell.bells(1));
        all.addAll(stands(bell));
        return all;
    }

    private static List<String> goesBack(NoonBell bell) {
        List<String> all = new ArrayList<>();
        for (int k = 0; k <= 21; k++) {
            boolean undone = bell.undo();
            tell(all, "undo", undone ? 1 : 0);
            if (!undone) break;
            for (int what = 3; what < 9; what++) tell(all, "has " + what, bell.has(what));
            int size = bell.image();
            for (int j = 0; j < 2; j++) tell(all, "HOUR in the image", bell.octet(j));
            tell(all, "the image's check", bell.octet(size - 1));
        }
        return all;
    }
}
