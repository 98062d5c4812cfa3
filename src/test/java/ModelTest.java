import java.util.Random;

/** Random runs: NoonBell and Model are asked the same, and must answer the same. */
final class ModelTest {
    private final Random random;
    private final NoonBell bell = new NoonBell();
    private final Model model = new Model();
    private final String name;
    private int calls = 0;

    private ModelTest(long seed) {
        random = new Random(seed);
        name = "run " + seed + ", call ";
    }

    private int upTo(int n) {
        return random.nextInt(n + 1);
    }

    private boolean rarely(int n) {
        return random.nextInt(n) == 0;
    }

    private String pick(String... texts) {
        return texts[random.nextInt(texts.length)];
    }

    // ---- texts

    private String number() {
        return rarely(6) ? "" + upTo(9999) : "" + upTo(pick("a", "b").equals("a") ? 12 : 99);
    }

    private String part(int depth, String... words) {
        if (depth > 0 && rarely(5)) return pick("(", " ( ") + sum(depth - 1, words) + ")";
        if (depth > 0 && rarely(7)) return pick("min(", "max (") + sum(depth - 1, words) + "," + sum(depth - 1, words) + ")";
        if (rarely(2)) return number();
        String word = pick(words);
        return word.equals("points PART") ? "points " + part(depth - 1, words) : word;
    }

    private String product(int depth, String... words) {
        String text = part(depth, words);
        while (rarely(5)) text += pick("*", "/", " * ") + part(depth, words);
        return text;
    }

    private String sum(int depth, String... words) {
        String text = product(depth, words);
        while (rarely(3)) text += pick("+", "-", "\n- ") + product(depth, words);
        return text;
    }

    private String fact(int depth, String... words) {
        if (depth > 0 && rarely(6)) return "not " + fact(depth - 1, words);
        if (depth > 0 && rarely(6)) return "[" + test(depth - 1, words) + "]";
        if (rarely(12)) return "all";
        return sum(depth, words) + pick("<", ">", "=", " > ") + sum(depth, words);
    }

    private String test(int depth, String... words) {
        String text = fact(depth, words);
        while (rarely(3)) text += pick(" or ", " and ") + fact(depth, words);
        return text;
    }

    private String name(int k) {
        return pick("a", "b", "c", "zed", "yes", "abcdef").substring(0, 1) + (char) ('a' + k);
    }

    private String cityText() {
        StringBuilder text = new StringBuilder();
        int people = rarely(8) ? upTo(11) : 2 + upTo(5);
        int tasks = rarely(8) ? upTo(9) : 1 + upTo(3);
        String[] names = new String[people];
        for (int p = 0; p < people; p++) {
            names[p] = name(p);
            text.append("person ").append(names[p]).append(" ward ").append(upTo(rarely(20) ? 12 : 3)).append(";");
        }
        String[] works = new String[tasks];
        for (int t = 0; t < tasks; t++) {
            works[t] = "t" + name(t);
            text.append("task ").append(works[t]).append(" hard ").append(upTo(rarely(20) ? 120 : 90)).append(";\n");
        }
        if (people > 0 && tasks > 0) {
            for (int k = upTo(rarely(5) ? 24 : 10); k > 0; k--) {
                text.append("does ").append(pick(names)).append(' ').append(pick(works)).append(" at ").append(upTo(23)).append(";");
            }
            covers(text, names);
            for (int k = upTo(12); k > 0; k--) {
                String a = pick(names);
                String b = pick(names);
                if (!a.equals(b)) text.append("knows ").append(a).append(' ').append(b).append(' ').append(upTo(99)).append(" ;");
            }
        }
        String[] watching = {"clock", "day", "points", "points", "same"};
        if (!rarely(4)) text.append("learn ").append(pick("points+", "", "")).append(sum(2, watching)).append(";");
        if (!rarely(3)) text.append("forget ").append(pick("points-", "", "")).append(sum(2, watching)).append(";");
        if (!rarely(6)) {
            text.append("can ").append(pick("points>hard or ", "points*2>hard and ", ""));
            text.append(test(2, "clock", "day", "points", "hard", "own")).append(";");
        }
        if (!rarely(4)) text.append("notice ").append(test(2, "clock", "day", "points", "same", "theirs")).append(";");
        return text.toString();
    }

    private void covers(StringBuilder text, String[] names) {
        boolean[] covered = new boolean[names.length];
        for (int p = 0; p < names.length; p++) {
            int life = upTo(names.length - 1);
            if (life == p || covered[life] || rarely(4)) life = p == names.length - 1 ? 0 : p + 1;
            if (life == p || covered[life] || rarely(6)) continue;
            covered[life] = true;
            text.append("covers ").append(names[p]).append(' ').append(names[life]).append(';');
        }
    }

    private String question() {
        String[] words = {"hour", "clock", "day", "life", "dries", "points PART", "points PART"};
        return rarely(2) ? pick("first ", "last ", "often ") + test(3, words) : pick("total ", "most ", "least ") + sum(3, words);
    }

    /** One place of a text made another one, so that most have a FAULT. */
    private String hurt(String text) {
        int at = upTo(text.length());
        String rest = text.substring(at);
        switch (upTo(5)) {
            case 0: return text.substring(0, at);
            case 1: return text.substring(0, at) + pick("(", "[", "not ", ")", ";", " ", "1", "x", "99999", "all", "A", "\t", "\u00ff") + rest;
            case 2: return rest.isEmpty() ? text : text.substring(0, at) + rest.substring(1);
            case 3: return text.substring(0, at) + pick("((((", "not not not not ", "[[[[") + rest;
            case 4: return text + pick("learn 1;", "can all;", "x", "person", "does", "covers ", "knows ");
            default: return text.substring(0, at) + text.substring(upTo(text.length()));
        }
    }

    private void feed(String text) {
        int[] numbers = new int[5];
        String cut = text.length() > 1600 ? text.substring(0, 1600) : text;
        same("end", bell.end(0) ? 1 : 0, model.end(0) ? 1 : 0);
        for (int k = 0; k < cut.length(); k += 20) {
            java.util.Arrays.fill(numbers, 0);
            for (int j = 0; j < 20; j++) {
                int one = k + j < cut.length() ? cut.charAt(k + j) : 32;
                numbers[j / 4] = numbers[j / 4] << 8 | one;
            }
            int got = bell.feed(numbers[0], numbers[1], numbers[2], numbers[3], numbers[4]);
            same("feed", got, model.feed(numbers));
        }
        same("end", bell.end(cut.length()) ? 1 : 0, model.end(cut.length()) ? 1 : 0);
    }

    private void same(String what, long got, long want) {
        calls++;
        Check.same(name + calls + ", " + what, got, want);
    }

    // ---- calls

    private int person() {
        return rarely(15) ? upTo(12) - 1 : upTo(Math.max(0, model.has(0) - 1));
    }

    private void change() {
        int p = person();
        int q = person();
        int n;
        switch (upTo(11)) {
            case 0: case 1: case 2:
                n = rarely(12) ? pick("a", "b").equals("a") ? 500 : 501 : upTo(rarely(3) ? 60 : 8);
                same("go " + n, bell.go(n), model.go(n));
                break;
            case 3: case 4:
                same("call " + p, bell.call(p), model.call(p));
                break;
            case 5: case 6:
                n = rarely(5) ? -1 : q;
                same("watch " + p + " " + n, bell.watch(p, n) ? 1 : 0, model.watch(p, n) ? 1 : 0);
                break;
            case 7:
                n = upTo(105) - 3;
                same("teach " + p + " " + q + " " + n, bell.teach(p, q, n), model.teach(p, q, n));
                break;
            case 8:
                n = rarely(5) ? upTo(22) : upTo(4);
                same("bells " + n, bell.bells(n), model.bells(n));
                break;
            case 9:
                for (n = upTo(4); n >= 0; n--) same("undo", bell.undo() ? 1 : 0, model.undo() ? 1 : 0);
                break;
            case 10:
                n = rarely(4) ? -random.nextInt(99) : random.nextInt() & Integer.MAX_VALUE;
                same("seed " + n, bell.seed(n) ? 1 : 0, model.seed(n) ? 1 : 0);
                break;
            default:
                texts(p);
                break;
        }
    }

    private void texts(int p) {
        switch (upTo(2)) {
            case 0:
                StringBuilder slips = new StringBuilder();
                for (int k = rarely(5) ? upTo(22) : upTo(2); k >= 0; k--) {
                    slips.append((char) upTo(rarely(12) ? 26 : 23)).append((char) upTo(rarely(12) ? 9 : Math.max(0, model.has(1) - 1)));
                    slips.append((char) (rarely(20) ? 2 : upTo(1)));
                }
                feed(rarely(9) ? slips.substring(1) : slips.toString());
                same("slips " + p, bell.slips(p), model.slips(p));
                break;
            case 1:
                for (int k = 3; k > 0; k--) {
                    String text = rarely(4) ? hurt(question()) : question();
                    feed(text);
                    same("ask " + p + " " + text, bell.ask(p), model.ask(p));
                    for (int f = 0; f < 2; f++) same("fault of " + text, bell.fault(f), model.fault(f));
                }
                break;
            default:
                images();
                break;
        }
    }

    private void images() {
        StringBuilder bytes = new StringBuilder();
        same("image", bell.image(), model.image());
        for (int k = -1; k <= model.image.size(); k++) {
            same("octet " + k, bell.octet(k), model.octet(k));
            if (k >= 0 && k < model.image.size()) bytes.append((char) model.octet(k));
        }
        if (rarely(3)) return;
        if (!rarely(3)) {
            int at = rarely(3) ? upTo(1) : upTo(bytes.length() - 1);
            bytes.setCharAt(at, (char) upTo(rarely(2) ? 40 : model.has(0) + 1));
            if (model.has(0) > 1 && rarely(2)) {
                int a = 2 + upTo(model.has(0) - 1) * (2 + model.has(0));
                int b = 2 + upTo(model.has(0) - 1) * (2 + model.has(0));
                char was = bytes.charAt(a);
                bytes.setCharAt(a, bytes.charAt(b));
                bytes.setCharAt(b, was);
            }
            int check = 197;
            for (int k = 0; k < bytes.length() - 1; k++) check = (3 * check + bytes.charAt(k)) % 251;
            if (!rarely(9)) bytes.setCharAt(bytes.length() - 1, (char) check);
        }
        feed(bytes.toString());
        same("on", bell.on() ? 1 : 0, model.on() ? 1 : 0);
    }

    private void look() {
        for (int k = -1; k < 10; k++) same("has " + k, bell.has(k), model.has(k));
        for (int k = -1; k < 7; k++) same("status " + k, bell.status(k), model.status(k));
        for (int p = -1; p <= model.has(0); p++) {
            for (int what = -1; what < 8; what++) same("person " + p + " " + what, bell.person(p, what), model.person(p, what));
            for (int life = -1; life <= model.has(0); life++) same("points", bell.points(p, life), model.points(p, life));
        }
        for (int k = -1; k <= 40; k++) {
            for (int what = -1; what < 5; what++) same("kept " + k + " " + what, bell.kept(k, what), model.kept(k, what));
        }
        same("who", bell.who(), model.who());
        for (int what = -1; what < 4; what++) same("first " + what, bell.first(what), model.first(what));
    }

    private void lookAhead() {
        for (int p = -1; p <= model.has(0); p++) {
            same("ring " + p, bell.ring(p), model.ring(p));
            for (int k = -2; k < 22; k++) same("wave " + p + " " + k, bell.wave(p, k), model.wave(p, k));
            for (int k = -1; k < 3; k++) {
                same("would " + p + " " + k, bell.would(p, k), model.would(p, k));
                same("best " + p + " " + k, bell.best(p, k), model.best(p, k));
            }
            for (int q = -1; q <= model.has(0); q++) {
                same("study " + p + " " + q, bell.study(p, q), model.study(p, q));
                int n = upTo(model.has(0) > 6 ? 3 : 6) - 1;
                same("odds " + p + " " + q + " " + n, bell.odds(p, q, n), model.odds(p, q, n));
                int task = upTo(model.has(1) + 1) - 1;
                int clock = upTo(25) - 1;
                same("could " + p + " " + q, bell.could(p, q, task, clock), model.could(p, q, task, clock));
            }
        }
        if (model.has(0) <= 7 || rarely(20)) {
            for (int k = -2; k <= model.has(0); k++) same("change " + k, bell.change(k), model.change(k));
        }
        for (int which = -1; which <= 10; which++) {
            for (int k = -1; k < 7; k++) {
                for (int kind = 0; kind < 2; kind++) same("letter", bell.letter(kind, which, k), model.letter(kind, which, k));
            }
        }
    }

    private void run(int turns) {
        for (int turn = 0; turn < turns; turn++) {
            if (turn == 0 || rarely(20)) {
                String text = cityText();
                for (int k = rarely(3) ? 12 : 1; k > 0; k--) {
                    String told = k == 1 && !rarely(5) ? text : hurt(text);
                    feed(told);
                    same("city " + told, bell.city(), model.city());
                    for (int f = -1; f < 3; f++) same("fault of " + told, bell.fault(f), model.fault(f));
                }
            }
            change();
            if (rarely(4)) look();
            if (rarely(8)) lookAhead();
        }
        look();
        lookAhead();
    }

    public static void main(String[] args) {
        int runs = args.length > 0 ? Integer.parseInt(args[0]) : 300;
        for (int seed = 0; seed < runs; seed++) new ModelTest(seed).run(60);
        Check.end("ModelTest");
    }
}
