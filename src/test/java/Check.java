import java.util.List;

/** Counts and prints what is not as it should be; every test's main ends with end(). */
final class Check {
    private static int asked = 0;
    private static int wrong = 0;
    private static String sentence = "";

    private Check() {
    }

    /** The sentence of the document that the answers from here on are about. */
    static void sentence(String words) {
        sentence = "[" + words + "] ";
    }

    static void same(String what, long got, long want) {
        asked++;
        if (got != want) {
            wrong++;
            System.out.println(sentence + what + ": answered " + got + ", due is " + want);
        }
    }

    static void yes(String what, boolean got) {
        same(what, got ? 1 : 0, 1);
    }

    static void no(String what, boolean got) {
        same(what, got ? 1 : 0, 0);
    }

    /** Each answer told as a text; the first one that is not alike is printed. */
    static void alike(String what, List<String> got, List<String> want) {
        asked++;
        if (got.equals(want)) return;
        wrong++;
        int k = 0;
        while (k < got.size() && k < want.size() && got.get(k).equals(want.get(k))) k++;
        String one = k < got.size() ? got.get(k) : "nothing";
        String other = k < want.size() ? want.get(k) : "nothing";
        System.out.println(sentence + what + ": told " + one + ", due is " + other);
    }

    static void end(String test) {
        System.out.println(test + ": " + asked + " answers, " + wrong + " of them wrong");
        if (wrong != 0) System.exit(1);
    }

    /** Puts bytes behind those on the tape (its length must be told by the caller: ahead). */
    static void feed(NoonBell bell, int ahead, int... bytes) {
        for (int k = 0; k < bytes.length; k += 20) {
            int[] numbers = new int[5];
            for (int j = 0; j < 20; j++) {
                int one = k + j < bytes.length ? bytes[k + j] & 255 : 0;
                numbers[j / 4] |= one << 24 - 8 * (j % 4);
            }
            bell.feed(numbers[0], numbers[1], numbers[2], numbers[3], numbers[4]);
        }
        bell.end(ahead + bytes.length);
    }

    static void feed(NoonBell bell, String text) {
        int[] bytes = new int[text.length()];
        for (int k = 0; k < bytes.length; k++) bytes[k] = text.charAt(k);
        bell.end(0);
        feed(bell, 0, bytes);
    }

    static int city(NoonBell bell, String text) {
        feed(bell, text);
        return bell.city();
    }

    static NoonBell of(String text) {
        NoonBell bell = new NoonBell();
        if (city(bell, text) == NoonBell.NONE) {
            throw new IllegalStateException("fault " + bell.fault(0) + " at " + bell.fault(1) + " in " + text);
        }
        return bell;
    }

    static long ask(NoonBell bell, int person, String text) {
        feed(bell, text);
        return bell.ask(person);
    }
}
