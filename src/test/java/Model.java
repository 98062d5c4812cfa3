import java.util.ArrayDeque;
import java.util.ArrayList;
import java.util.Deque;
import java.util.HashMap;
import java.util.List;
import java.util.Map;
import java.util.Set;

/** A second, slow and plain reading of the document, to hold NoonBell against. */
final class Model {
    static final int NONE = -1;
    static final long NOTHING = -1000000000000000L;
    private static final Set<String> OWN = Set.of("person", "ward", "task", "hard", "does", "at", "covers", "knows",
            "learn", "forget", "can", "notice", "clock", "day", "points", "same", "own", "theirs", "or", "and", "not",
            "all", "min", "max");

    interface Sum {
        int of(Map<String, Integer> facts);
    }

    interface Test {
        boolean of(Map<String, Integer> facts);
    }

    static final class Fault extends RuntimeException {
        private static final long serialVersionUID = 1L;
        final int kind;
        final int place;

        Fault(int kind, int place) {
            this.kind = kind;
            this.place = place;
        }
    }

    static final class City {
        final List<String> people = new ArrayList<>();
        final List<Integer> wards = new ArrayList<>();
        final List<String> tasks = new ArrayList<>();
        final List<Integer> hards = new ArrayList<>();
        final List<int[]> duties = new ArrayList<>();
        final Map<Integer, Integer> covers = new HashMap<>();
        final int[][] known = new int[10][10];
        Sum learn;
        Sum forget;
        Test can;
        Test notice;
        int statements;

        int coverer(int life) {
            for (Map.Entry<Integer, Integer> e : covers.entrySet()) if (e.getValue() == life) return e.getKey();
            return NONE;
        }
    }

    static final class State {
        int hour;
        int[] lives;
        int[] watch;
        int[][] points;
        List<int[]> kept = new ArrayList<>();

        State copy() {
            State s = new State();
            s.hour = hour;
            s.lives = lives.clone();
            s.watch = watch.clone();
            s.points = new int[points.length][];
            for (int k = 0; k < points.length; k++) s.points[k] = points[k].clone();
            s.kept = new ArrayList<>(kept);
            return s;
        }

        int wholives(int life) {
            for (int p = 0; p < lives.length; p++) if (lives[p] == life) return p;
            return NONE;
        }
    }

    // ---- texts

    static final class Text {
        final List<Integer> bytes;
        int at;
        Set<String> parts;
        boolean question;

        Text(List<Integer> bytes) {
            this.bytes = bytes;
        }

        private int sort(int k) {
            if (k < 0 || k >= bytes.size()) return 0;
            int b = bytes.get(k);
            return b >= 'a' && b <= 'z' ? 1 : b >= '0' && b <= '9' ? 2 : 0;
        }

        /** The next token, with at moved to its first byte; "" at the end, "?" when it lacks its blank. */
        String peek() {
            while (at < bytes.size() && (bytes.get(at) == 32 || bytes.get(at) == 10)) at++;
            if (at == bytes.size()) return "";
            int sort = sort(at);
            if (sort == 0) return "" + (char) (int) bytes.get(at);
            if (sort(at - 1) != 0) return "?";
            StringBuilder s = new StringBuilder();
            for (int k = at; sort(k) == sort; k++) s.append((char) (int) bytes.get(k));
            return s.toString();
        }

        String next() {
            String s = peek();
            at += s.length();
            return s;
        }

        void must(String s) {
            if (!peek().equals(s)) throw new Fault(1, at);
            next();
        }

        boolean eat(String s) {
            if (!peek().equals(s)) return false;
            next();
            return true;
        }

        String name() {
            String s = peek();
            if (s.isEmpty() || sort(at) != 1 || s.equals("?") || OWN.contains(s)) throw new Fault(1, at);
            if (s.length() > 6) throw new Fault(1, at + 6);
            return next();
        }

        int number(int most) {
            String s = peek();
            if (s.isEmpty() || sort(at) != 2 || s.equals("?")) throw new Fault(1, at);
            if (s.length() > 4) throw new Fault(1, at + 4);
            if (Integer.parseInt(s) > most) throw new Fault(2, at);
            return Integer.parseInt(next());
        }

        int one(List<String> names) {
            int where = where();
            int found = names.indexOf(name());
            if (found < 0) throw new Fault(3, where);
            return found;
        }

        int where() {
            peek();
            return at;
        }

        private int open(int open) {
            if (open == 6) throw new Fault(4, where());
            return open + 1;
        }

        Test test(int open) {
            Test a = both(open);
            while (eat("or")) {
                Test l = a;
                Test r = both(open);
                a = f -> l.of(f) || r.of(f);
            }
            return a;
        }

        Test both(int open) {
            Test a = fact(open);
            while (eat("and")) {
                Test l = a;
                Test r = fact(open);
                a = f -> l.of(f) && r.of(f);
            }
            return a;
        }

        Test fact(int open) {
            if (peek().equals("not")) {
                int now = open(open);
                next();
                Test t = fact(now);
                return f -> !t.of(f);
            }
            if (peek().equals("[")) {
                int now = open(open);
                next();
                Test t = test(now);
                must("]");
                return t;
            }
            if (eat("all")) return f -> true;
            Sum a = sum(open);
            String sign = peek();
            if (!sign.equals("<") && !sign.equals(">") && !sign.equals("=")) throw new Fault(1, at);
            next();
            Sum b = sum(open);
            return f -> sign.equals("<") ? a.of(f) < b.of(f) : sign.equals(">") ? a.of(f) > b.of(f) : a.of(f) == b.of(f);
        }

        private static int held(long x) {
            return x > 1000000 ? 1000000 : x < -1000000 ? -1000000 : (int) x;
        }

        Sum sum(int open) {
            Sum a = product(open);
            while (true) {
                Sum l = a;
                if (eat("+")) {
                    Sum r = product(open);
                    a = f -> held((long) l.of(f) + r.of(f));
                } else if (eat("-")) {
                    Sum r = product(open);
                    a = f -> held((long) l.of(f) - r.of(f));
                } else {
                    return a;
                }
            }
        }

        Sum product(int open) {
            Sum a = part(open);
            while (true) {
                Sum l = a;
                if (eat("*")) {
                    Sum r = part(open);
                    a = f -> held((long) l.of(f) * r.of(f));
                } else if (eat("/")) {
                    Sum r = part(open);
                    a = f -> r.of(f) == 0 ? 0 : (int) Math.floor((double) l.of(f) / r.of(f));
                } else {
                    return a;
                }
            }
        }

        Sum part(int open) {
            String s = peek();
            if (!s.isEmpty() && sort(at) == 2 && !s.equals("?")) {
                int n = number(9999);
                return f -> n;
            }
            if (s.equals("(")) {
                int now = open(open);
                next();
                Sum a = sum(now);
                must(")");
                return a;
            }
            if (s.equals("min") || s.equals("max")) {
                next();
                if (!peek().equals("(")) throw new Fault(1, at);
                int now = open(open);
                next();
                Sum a = sum(now);
                must(",");
                Sum b = sum(now);
                must(")");
                return f -> s.equals("min") ? Math.min(a.of(f), b.of(f)) : Math.max(a.of(f), b.of(f));
            }
            if (question && s.equals("points")) {
                int now = open(open);
                next();
                Sum a = part(now);
                return f -> f.getOrDefault("points " + a.of(f), 0);
            }
            if (!parts.contains(s)) throw new Fault(1, at);
            next();
            return f -> f.get(s);
        }

        City city() {
            City c = new City();
            for (int k = 0; k < 10; k++) c.known[k][k] = 99;
            while (!peek().isEmpty()) {
                if (c.statements == 70) throw new Fault(5, at);
                int where = at;
                String s = peek();
                boolean many = s.equals("person") && c.people.size() == 10 || s.equals("task") && c.tasks.size() == 8
                        || s.equals("does") && c.duties.size() == 24 || s.equals("learn") && c.learn != null
                        || s.equals("forget") && c.forget != null || s.equals("can") && c.can != null
                        || s.equals("notice") && c.notice != null;
                if (many) throw new Fault(5, where);
                next();
                statement(c, s, where);
                must(";");
                c.statements++;
            }
            return c;
        }

        private void statement(City c, String s, int where) {
            if (s.equals("person") || s.equals("task")) {
                int at = where();
                String name = name();
                if (c.people.contains(name) || c.tasks.contains(name)) throw new Fault(3, at);
                must(s.equals("person") ? "ward" : "hard");
                int n = number(s.equals("person") ? 9 : 99);
                (s.equals("person") ? c.people : c.tasks).add(name);
                (s.equals("person") ? c.wards : c.hards).add(n);
            } else if (s.equals("does")) {
                int life = one(c.people);
                int task = one(c.tasks);
                must("at");
                int at = where();
                int clock = number(23);
                for (int[] d : c.duties) if (d[0] == life && d[1] == task && d[2] == clock) throw new Fault(2, at);
                c.duties.add(new int[] {life, task, clock});
            } else if (s.equals("covers")) {
                int at = where();
                int who = one(c.people);
                if (c.covers.containsKey(who)) throw new Fault(3, at);
                at = where();
                int life = one(c.people);
                if (life == who || c.covers.containsValue(life)) throw new Fault(3, at);
                c.covers.put(who, life);
            } else if (s.equals("knows")) {
                int who = one(c.people);
                int at = where();
                int life = one(c.people);
                if (life == who) throw new Fault(3, at);
                c.known[who][life] = number(99);
            } else if (s.equals("learn") || s.equals("forget")) {
                parts = Set.of("clock", "day", "points", "same");
                if (s.equals("learn")) c.learn = sum(0);
                else c.forget = sum(0);
            } else if (s.equals("can")) {
                parts = Set.of("clock", "day", "points", "hard", "own");
                c.can = test(0);
            } else if (s.equals("notice")) {
                parts = Set.of("clock", "day", "points", "same", "theirs");
                c.notice = test(0);
            } else {
                throw new Fault(1, where);
            }
        }
    }

    // ---- the object

    List<Integer> tape = new ArrayList<>();
    List<Integer> image = new ArrayList<>();
    City city = new City();
    State now = start(city);
    final Deque<State> past = new ArrayDeque<>();
    long seed = 1;
    int fault = 0;
    int place = NONE;
    final int[] refused = new int[6];
    List<int[]> slips = null;
    int slipLife;

    private static State start(City c) {
        State s = new State();
        int n = c.people.size();
        s.lives = new int[n];
        s.watch = new int[n];
        s.points = new int[n][n];
        for (int p = 0; p < n; p++) {
            s.lives[p] = p;
            s.watch[p] = NONE;
            for (int l = 0; l < n; l++) s.points[p][l] = c.known[p][l];
        }
        return s;
    }

    private int refuse(int what) {
        refused[what]++;
        return NONE;
    }

    private void remember() {
        past.addLast(now.copy());
        if (past.size() > 20) past.removeFirst();
    }

    private int n() {
        return city.people.size();
    }

    private boolean is(int p) {
        return p >= 0 && p < n();
    }

    int feed(int... numbers) {
        if (tape.size() + 20 > 1600) return refuse(0);
        for (int x : numbers) for (int k = 3; k >= 0; k--) tape.add(x >>> 8 * k & 255);
        return tape.size();
    }

    boolean end(int n) {
        if (n < 0 || n > tape.size()) return refuse(0) == 0;
        tape = new ArrayList<>(tape.subList(0, n));
        return true;
    }

    int city() {
        List<Integer> text = tape;
        tape = new ArrayList<>();
        try {
            city = new Text(text).city();
            fault = 0;
            place = NONE;
        } catch (Fault f) {
            fault = f.kind;
            place = f.place;
            return refuse(1);
        }
        now = start(city);
        past.clear();
        slips = null;
        return city.statements;
    }

    int fault(int what) {
        return what == 0 ? fault : what == 1 ? place : NONE;
    }

    int has(int what) {
        int away = 0;
        int elsewhere = 0;
        int unlived = 0;
        for (int p = 0; p < n(); p++) {
            if (now.lives[p] == NONE) away++;
            else if (now.lives[p] != p) elsewhere++;
            if (now.wholives(p) == NONE) unlived++;
        }
        int[] all = {n(), city.tasks.size(), city.duties.size(), now.hour, away, unlived, elsewhere,
            Math.min(40, now.kept.size()), past.size()};
        return what < 0 || what >= all.length ? NONE : all[what];
    }

    int letter(int kind, int which, int k) {
        List<String> names = kind == 0 ? city.people : kind == 1 ? city.tasks : List.of();
        if (which < 0 || which >= names.size() || k < 0 || k > 5) return NONE;
        return k < names.get(which).length() ? names.get(which).charAt(k) - 'a' + 1 : 0;
    }

    int person(int p, int what) {
        if (!is(p)) return NONE;
        int duties = 0;
        for (int[] d : city.duties) if (d[0] == p) duties++;
        switch (what) {
            case 0: return city.wards.get(p);
            case 1: return now.lives[p];
            case 2: return now.watch[p];
            case 3: return city.covers.getOrDefault(p, NONE);
            case 4: return city.coverer(p);
            case 5: return duties;
            case 6: return now.wholives(p);
            default: return NONE;
        }
    }

    int points(int p, int life) {
        return is(p) && is(life) ? now.points[p][life] : NONE;
    }

    private boolean can(int p, int life, int task, int clock, int day, int points) {
        if (city.can == null) return true;
        return city.can.of(Map.of("clock", clock, "day", day, "points", points, "hard", city.hards.get(task),
                "own", p == life ? 1 : 0));
    }

    private Map<String, Integer> watching(int p, int life, int clock, int day, int points) {
        int same = city.wards.get(p).equals(city.wards.get(life)) ? 1 : 0;
        return Map.of("clock", clock, "day", day, "points", points, "same", same);
    }

    private static int points99(int x) {
        return x < 0 ? 0 : x > 99 ? 99 : x;
    }

    int could(int p, int life, int task, int clock) {
        if (!is(p) || !is(life) || task < 0 || task >= city.tasks.size() || clock < 0 || clock > 23) return NONE;
        return can(p, life, task, clock, now.hour / 24, now.points[p][life]) ? 1 : 0;
    }

    int kept(int k, int what) {
        List<int[]> told = now.kept.subList(Math.max(0, now.kept.size() - 40), now.kept.size());
        return k < 0 || k >= told.size() || what < 0 || what > 3 ? NONE : told.get(k)[what];
    }

    /** Who go on, and last the LIFE that is left. */
    private List<Integer> away(State s, int p) {
        List<Integer> all = new ArrayList<>();
        int left = s.lives[p];
        s.lives[p] = NONE;
        int c = city.coverer(left);
        while (c != NONE && s.lives[c] == c) {
            s.lives[c] = left;
            all.add(c);
            left = c;
            c = city.coverer(left);
        }
        all.add(left);
        return all;
    }

    int wave(int p, int k) {
        if (!is(p) || now.lives[p] == NONE) return NONE;
        List<Integer> all = away(now.copy(), p);
        int many = all.size() - 1;
        if (k == NONE) return many;
        return k == 20 ? all.get(many) : k >= 0 && k < many ? all.get(k) : NONE;
    }

    /** One HOUR; what failed in it, as {which, LIFE, who}. */
    private List<int[]> hour(State s) {
        List<int[]> failed = new ArrayList<>();
        s.hour++;
        int clock = s.hour % 24;
        int day = s.hour / 24;
        if (clock == 0) {
            for (int p = 0; p < n(); p++) s.lives[p] = p;
            for (int p = 0; p < n() && city.forget != null; p++) {
                for (int l = 0; l < n(); l++) {
                    if (l != p) s.points[p][l] = points99(city.forget.of(watching(p, l, clock, day, s.points[p][l])));
                }
            }
        }
        for (int life = 0; life < n(); life++) {
            for (int[] d : city.duties) {
                if (d[0] != life || d[2] != clock) continue;
                int who = s.wholives(life);
                if (who == NONE) {
                    failed.add(new int[] {0, life, NONE});
                    s.kept.add(new int[] {s.hour, 0, life, NONE});
                } else if (!can(who, life, d[1], clock, day, s.points[who][life])) {
                    failed.add(new int[] {1, life, who});
                    s.kept.add(new int[] {s.hour, 1, life, who});
                } else if (who != life) {
                    for (int p = 0; p < n(); p++) {
                        if (p == who || p == life || s.lives[p] == NONE || city.notice == null) continue;
                        Map<String, Integer> facts = new HashMap<>(watching(p, life, clock, day, s.points[who][life]));
                        facts.put("theirs", s.points[p][life]);
                        if (city.notice.of(facts)) s.kept.add(new int[] {s.hour, 2, life, p});
                    }
                }
            }
        }
        for (int p = 0; p < n(); p++) {
            int w = s.watch[p];
            if (w == NONE || s.lives[p] == NONE || city.learn == null) continue;
            boolean busy = false;
            for (int[] d : city.duties) busy |= d[0] == s.lives[p] && d[2] == clock;
            if (!busy) s.points[p][w] = points99(city.learn.of(watching(p, w, clock, day, s.points[p][w])));
        }
        return failed;
    }

    int would(int p, int what) {
        if (!is(p) || now.lives[p] == NONE || what < 0 || what > 1) return NONE;
        State s = now.copy();
        away(s, p);
        int count = 0;
        while (s.hour % 24 != 23 && s.hour < 9999) {
            for (int[] f : hour(s)) if (f[0] == what) count++;
        }
        return count;
    }

    int first(int what) {
        if (what < 0 || what > 2) return NONE;
        State s = now.copy();
        while (s.hour < now.hour + 72 && s.hour < 9999) {
            List<int[]> f = hour(s);
            if (!f.isEmpty()) return what == 0 ? s.hour : f.get(0)[what - 1];
        }
        return NONE;
    }

    private int able(int p, int life) {
        int count = 0;
        for (int[] d : city.duties) {
            if (d[0] == life && can(p, life, d[1], d[2], now.hour / 24, now.points[p][life])) count++;
        }
        return count;
    }

    int best(int life, int what) {
        if (!is(life) || n() < 2 || what < 0 || what > 1) return NONE;
        int who = life == 0 ? 1 : 0;
        for (int p = who + 1; p < n(); p++) if (p != life && able(p, life) > able(who, life)) who = p;
        return what == 0 ? who : able(who, life);
    }

    int study(int p, int life) {
        if (!is(p) || !is(life) || p == life) return NONE;
        int points = now.points[p][life];
        int day = now.hour / 24;
        for (int k = 0; k <= 99; k++) {
            boolean every = true;
            for (int[] d : city.duties) every &= d[0] != life || can(p, life, d[1], d[2], day, points);
            if (every) return k;
            if (city.learn != null) points = points99(city.learn.of(watching(p, life, now.hour % 24, day, points)));
        }
        return NONE;
    }

    private int[] least;
    private int leastCost;

    private void deal(int[] who, int life, int used, int cost) {
        if (least != null && cost >= leastCost) return;
        if (life == n()) {
            least = who.clone();
            leastCost = cost;
            return;
        }
        for (int p = 0; p < n(); p++) {
            if (p == life || (used >> p & 1) == 1) continue;
            who[life] = p;
            deal(who, life + 1, used | 1 << p, cost + person(life, 5) - able(p, life));
        }
    }

    int change(int k) {
        if (n() < 2 || k < NONE || k >= n()) return NONE;
        least = null;
        deal(new int[n()], 0, 0, 0);
        return k == NONE ? leastCost : least[k];
    }

    int ring(int p) {
        if (!is(p)) return NONE;
        int one = p;
        for (int k = 1; k <= n(); k++) {
            one = city.covers.getOrDefault(one, NONE);
            if (one == NONE) return 0;
            if (one == p) return k;
        }
        return 0;
    }

    int odds(int p, int life, int n) {
        if (!is(p) || !is(life) || p == life || n < 0 || n > 4) return NONE;
        long rows = 1;
        for (int k = 0; k < n; k++) rows *= n();
        long hit = 0;
        for (long row = 0; row < rows; row++) {
            boolean some = false;
            long rest = row;
            for (int k = 0; k < n; k++) {
                State s = start(city);
                away(s, (int) (rest % n()));
                rest /= n();
                some |= s.lives[p] == life;
            }
            if (some) hit++;
        }
        return (int) (hit * 1000 / rows);
    }

    int go(int n) {
        if (n < 1 || n > 500 || now.hour + n > 9999) return refuse(2);
        remember();
        for (int k = 0; k < n; k++) hour(now);
        return now.hour;
    }

    int call(int p) {
        if (!is(p) || now.lives[p] == NONE) return refuse(2);
        remember();
        return away(now, p).size() - 1;
    }

    boolean watch(int p, int life) {
        if (!is(p) || life != NONE && !is(life) || p == life || now.watch[p] == life) return refuse(3) == 0;
        remember();
        now.watch[p] = life;
        return true;
    }

    int teach(int p, int life, int n) {
        if (!is(p) || !is(life) || p == life || n < 0 || n > 99) return refuse(3);
        remember();
        int before = now.points[p][life];
        now.points[p][life] = n;
        return before;
    }

    int bells(int n) {
        if (n < 1 || n > 20) return refuse(2);
        State before = now.copy();
        long x = seed;
        for (int day = 0; day < n; day++) {
            do hour(now); while (now.hour % 24 != 12);
            if (n() > 0) {
                seed = (1103515245L * seed + 12345L) % 2147483648L;
                int p = (int) (seed / 64 % n());
                if (now.lives[p] != NONE) away(now, p);
            }
            do hour(now); while (now.hour % 24 != 0);
        }
        State after = now;
        now = before;
        if (after.hour > 9999) {
            seed = x;
            return refuse(2);
        }
        remember();
        now = after;
        return now.hour;
    }

    boolean undo() {
        if (past.isEmpty()) return refuse(4) == 0;
        now = past.removeLast();
        return true;
    }

    boolean seed(int x) {
        if (x < 0) return refuse(5) == 0;
        seed = x;
        return true;
    }

    int slips(int life) {
        List<Integer> text = tape;
        tape = new ArrayList<>();
        boolean good = is(life) && !text.isEmpty() && text.size() % 3 == 0 && text.size() <= 60;
        List<int[]> rows = new ArrayList<>();
        for (int k = 0; good && k < text.size(); k += 3) {
            int[] row = {text.get(k), text.get(k + 1), text.get(k + 2)};
            good = row[0] <= 23 && row[1] < city.tasks.size() && row[2] <= 1;
            rows.add(row);
        }
        if (!good) return refuse(1);
        slips = rows;
        slipLife = life;
        return rows.size();
    }

    int who() {
        if (slips == null) return NONE;
        int bits = 0;
        for (int p = 0; p < n(); p++) {
            boolean so = true;
            for (int[] row : slips) so &= could(p, slipLife, row[1], row[0]) == row[2];
            if (so) bits += 1 << p;
        }
        return bits;
    }

    long ask(int p) {
        Text text = new Text(tape);
        tape = new ArrayList<>();
        if (!is(p)) return NOTHING;
        text.question = true;
        text.parts = Set.of("hour", "clock", "day", "life", "dries");
        String kind;
        Test test = null;
        Sum sum = null;
        try {
            kind = text.peek();
            if (Set.of("first", "last", "often").contains(kind)) {
                text.next();
                test = text.test(0);
            } else if (Set.of("total", "most", "least").contains(kind)) {
                text.next();
                sum = text.sum(0);
            } else {
                throw new Fault(1, text.where());
            }
            if (!text.peek().isEmpty()) throw new Fault(1, text.where());
            fault = 0;
            place = NONE;
        } catch (Fault f) {
            fault = f.kind;
            place = f.place;
            return NOTHING;
        }
        return answer(p, kind, test, sum);
    }

    private long answer(int p, String kind, Test test, Sum sum) {
        List<Integer> holds = new ArrayList<>();
        List<Integer> values = new ArrayList<>();
        State s = now.copy();
        int dries = 0;
        for (int k = 0; k < 48 && now.hour + k <= 9999; k++) {
            if (k > 0) {
                dries = 0;
                for (int[] f : hour(s)) if (f[0] == 1 && f[2] == p) dries++;
            }
            Map<String, Integer> facts = new HashMap<>();
            facts.put("hour", s.hour);
            facts.put("clock", s.hour % 24);
            facts.put("day", s.hour / 24);
            facts.put("life", s.lives[p] == NONE ? 99 : s.lives[p]);
            facts.put("dries", dries);
            for (int l = 0; l < n(); l++) facts.put("points " + l, s.points[p][l]);
            if (test != null && test.of(facts)) holds.add(s.hour);
            if (sum != null) values.add(sum.of(facts));
        }
        switch (kind) {
            case "first": return holds.isEmpty() ? NONE : holds.get(0);
            case "last": return holds.isEmpty() ? NONE : holds.get(holds.size() - 1);
            case "often": return holds.size();
            case "total": return values.stream().mapToLong(v -> v).sum();
            case "most": return values.stream().mapToInt(v -> v).max().getAsInt();
            default: return values.stream().mapToInt(v -> v).min().getAsInt();
        }
    }

    private static int check(List<Integer> bytes) {
        int c = 197;
        for (int b : bytes) c = (3 * c + b) % 251;
        return c;
    }

    int image() {
        image = new ArrayList<>(List.of(now.hour / 256, now.hour % 256));
        for (int p = 0; p < n(); p++) {
            image.add(now.lives[p] + 1);
            image.add(now.watch[p] + 1);
            for (int x : now.points[p]) image.add(x);
        }
        image.add(check(image));
        return image.size();
    }

    int octet(int k) {
        return k < 0 || k >= image.size() ? NONE : image.get(k);
    }

    boolean on() {
        List<Integer> bytes = tape;
        tape = new ArrayList<>();
        if (bytes.size() != 3 + n() * (2 + n())) return refuse(5) == 0;
        int k = 2;
        State s = start(city);
        s.hour = 256 * bytes.get(0) + bytes.get(1);
        boolean good = s.hour <= 9999 && check(bytes.subList(0, bytes.size() - 1)) == bytes.get(bytes.size() - 1);
        List<Integer> lived = new ArrayList<>();
        for (int p = 0; p < n(); p++) {
            s.lives[p] = bytes.get(k++) - 1;
            s.watch[p] = bytes.get(k++) - 1;
            good &= s.lives[p] < n() && s.watch[p] < n() && s.watch[p] != p && !lived.contains(s.lives[p]);
            if (s.lives[p] != NONE) lived.add(s.lives[p]);
            for (int l = 0; l < n(); l++) s.points[p][l] = bytes.get(k++);
            for (int l = 0; l < n(); l++) good &= s.points[p][l] <= 99 && (l != p || s.points[p][l] == 99);
        }
        if (!good) return refuse(5) == 0;
        now = s;
        past.clear();
        return true;
    }

    int status(int what) {
        return what < 0 || what > 5 ? NONE : refused[what];
    }
}
