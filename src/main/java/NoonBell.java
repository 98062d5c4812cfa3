/**
 * Understudies at noon: people with lives told as a text, who covers whom, what one knows of
 * another one's life, and what is left or dried when a bell calls one away.
 */
public final class NoonBell {
    /** There is none; it is refused. */
    public static final int NONE = -1;
    /** Told where a number below 0 may be one. */
    public static final long NOTHING = -1000000000000000L;

    private static final int MOST_PEOPLE = 10;
    private static final int MOST_TASKS = 8;
    private static final int MOST_DUTIES = 24;
    private static final int MOST_STATEMENTS = 70;
    private static final int MOST_TAPE = 1600;
    private static final int MOST_OPEN = 6;
    private static final int MOST_WARD = 9;
    private static final int MOST_POINTS = 99;
    private static final int MOST_NUMBER = 9999;
    private static final int MOST_SUM = 1000000;
    private static final int MOST_LETTERS = 6;
    private static final int MOST_DIGITS = 4;
    private static final int MOST_KEPT = 40;
    private static final int MOST_UNDONE = 20;
    private static final int MOST_SLIPS = 20;
    private static final int MOST_CALLS = 4;
    private static final int MOST_LESSONS = 99;
    private static final int MOST_DAYS = 20;
    private static final int MOST_HOURS = 500;
    private static final int LAST_HOUR = 9999;
    private static final int DAY_HOURS = 24;
    private static final int NOON = 12;
    private static final int AHEAD = 72;
    private static final int ASKED_HOURS = 48;
    private static final int WAVE_END = 20;
    private static final int AWAY = 99;
    private static final int REFUSALS = 6;

    // what a KEPT tells
    private static final int LEFT = 0;
    private static final int DRIED = 1;
    private static final int NOTICED = 2;

    // the OWN WORDS, then the words that only a QUESTION has; a word's number is its place here
    private static final String OWN_WORDS =
        "person ward task hard does at covers knows learn forget can notice clock day points same own theirs or and not all min max ";
    private static final String ASK_WORDS = "first last often total most least hour life dries ";
    private static final int PERSON = 0;
    private static final int WARD = 1;
    private static final int TASK = 2;
    private static final int HARD = 3;
    private static final int DOES = 4;
    private static final int AT = 5;
    private static final int COVERS = 6;
    private static final int KNOWS = 7;
    private static final int LEARN = 8;
    private static final int FORGET = 9;
    private static final int CAN = 10;
    private static final int NOTICE = 11;
    private static final int CLOCK = 12;
    private static final int DAY = 13;
    private static final int POINTS = 14;
    private static final int SAME = 15;
    private static final int OWN = 16;
    private static final int THEIRS = 17;
    private static final int OR = 18;
    private static final int AND = 19;
    private static final int NOT = 20;
    private static final int ALL = 21;
    private static final int MIN = 22;
    private static final int MAX = 23;
    private static final int OWN_COUNT = 24;
    private static final int FIRST = 24;
    private static final int LAST = 25;
    private static final int OFTEN = 26;
    private static final int TOTAL = 27;
    private static final int MOST = 28;
    private static final int LEAST = 29;
    private static final int HOUR = 30;
    private static final int LIFE = 31;
    private static final int DRIES = 32;
    private static final int WORD_COUNT = 33;

    // facts stand in a row by the numbers of their words; behind them what one knows of each LIFE
    private static final int KNOWN_FACTS = WORD_COUNT;
    private static final int FACT_COUNT = KNOWN_FACTS + MOST_PEOPLE;
    private static final long LEARN_FACTS = 1L << CLOCK | 1L << DAY | 1L << POINTS | 1L << SAME;
    private static final long CAN_FACTS = 1L << CLOCK | 1L << DAY | 1L << POINTS | 1L << HARD | 1L << OWN;
    private static final long NOTICE_FACTS = LEARN_FACTS | 1L << THEIRS;
    private static final long ASK_FACTS = 1L << HOUR | 1L << CLOCK | 1L << DAY | 1L << LIFE | 1L << DRIES;

    private final Row tape = new Row(MOST_TAPE);
    private final Row image = new Row(3 + MOST_PEOPLE * (2 + MOST_PEOPLE));
    private final Row refused = new Row(REFUSALS);
    private final Row slipped = new Row(3 * MOST_SLIPS);
    private final Reader reader = new Reader();
    private final Course course = new Course();
    private final Change changer = new Change();
    private final Past past = new Past();
    private final Moment now = new Moment();
    private final Moment scratch = new Moment();
    private City city = new City();
    private City spare = new City();
    private int slipLife = NONE;
    private long seed = 1;

    public NoonBell() {
        refused.fill(REFUSALS, 0);
        city.clear();
        now.begin(city);
    }

    // ---- the tape and the CITY

    public int feed(int a, int b, int c, int d, int e) {
        if (tape.size() + 20 > MOST_TAPE) return refuse(0);
        feedNumber(a);
        feedNumber(b);
        feedNumber(c);
        feedNumber(d);
        feedNumber(e);
        return tape.size();
    }

    public boolean end(int n) {
        if (n < 0 || n > tape.size()) {
            refuse(0);
            return false;
        }
        tape.cut(n);
        return true;
    }

    public int city() {
        reader.start(tape);
        tape.cut(0);
        reader.readCity(spare);
        if (reader.fault != 0) return refuse(1);
        City told = spare;
        spare = city;
        city = told;
        now.begin(city);
        past.clear();
        slipped.cut(0);
        slipLife = NONE;
        return city.statements;
    }

    public int fault(int what) {
        if (what == 0) return reader.fault;
        return what == 1 ? reader.place : NONE;
    }

    public int has(int what) {
        switch (what) {
            case 0: return city.people.size();
            case 1: return city.tasks.size();
            case 2: return city.dutyLives.size();
            case 3: return now.hour;
            case 4: return countAway();
            case 5: return countAway();
            case 6: return countElsewhere();
            case 7: return now.keptCount();
            case 8: return past.size();
            default: return NONE;
        }
    }

    public int letter(int kind, int which, int k) {
        if (kind != 0 && kind != 1) return NONE;
        Row names = kind == 0 ? city.people : city.tasks;
        if (which < 0 || which >= names.size() || k < 0 || k >= MOST_LETTERS) return NONE;
        return names.get(which) >> 5 * k & 31;
    }

    public int person(int person, int what) {
        if (!isPerson(person)) return NONE;
        switch (what) {
            case 0: return city.wards.get(person);
            case 1: return now.lives.get(person);
            case 2: return now.watched.get(person);
            case 3: return city.covered.get(person);
            case 4: return city.coverers.get(person);
            case 5: return city.dutyLives.count(person);
            case 6: return now.lives.find(person);
            default: return NONE;
        }
    }

    public int points(int person, int life) {
        return isPerson(person) && isPerson(life) ? now.pointsOf(person, life) : NONE;
    }

    public int could(int person, int life, int task, int clock) {
        if (!isPerson(person) || !isPerson(life)) return NONE;
        if (!isTask(task) || !isClock(clock)) return NONE;
        return course.ableNow(city, now, person, life, task, clock) ? 1 : 0;
    }

    public int kept(int k, int what) {
        return now.keptPart(k, what);
    }

    // ---- waves, what would be

    public int wave(int person, int k) {
        if (!isHere(person)) return NONE;
        scratch.copy(now);
        course.sendAway(city, scratch, person);
        if (k == NONE) return course.moved.size();
        return k == WAVE_END ? course.left : course.moved.get(k);
    }

    public int would(int person, int what) {
        if (!isHere(person) || what != LEFT && what != DRIED) return NONE;
        scratch.copy(now);
        course.forgetFailures();
        course.sendAway(city, scratch, person);
        int hours = Math.min(DAY_HOURS - 1 - now.hour % DAY_HOURS, LAST_HOUR - now.hour);
        bring(scratch, hours);
        return course.failures.get(what);
    }

    public int first(int what) {
        if (what < 0 || what > 2) return NONE;
        scratch.copy(now);
        course.forgetFailures();
        for (int k = 1; k <= AHEAD && scratch.hour < LAST_HOUR; k++) {
            course.comes(city, scratch);
            if (course.earliest.size() != 0) return course.earliest.get(what);
        }
        return NONE;
    }

    public int best(int life, int what) {
        if (!isPerson(life) || what != 0 && what != 1) return NONE;
        int who = NONE;
        int most = NONE;
        for (int p = 0; p < city.people.size(); p++) {
            int able = p == life ? NONE : course.countAble(city, now, p, life);
            if (able > most) {
                who = p;
                most = able;
            }
        }
        return what == 0 ? who : most;
    }

    public int study(int person, int life) {
        if (!isPerson(person) || !isPerson(life) || person == life) return NONE;
        int points = now.pointsOf(person, life);
        for (int hours = 0; hours <= MOST_LESSONS; hours++) {
            if (course.ableInAll(city, now.hour, person, life, points)) return hours;
            points = course.learned(city, now.hour, person, life, points);
        }
        return NONE;
    }

    public int change(int k) {
        int people = city.people.size();
        if (people < 2 || k != NONE && !isPerson(k)) return NONE;
        changer.begin(people);
        for (int life = 0; life < people; life++) {
            int duties = city.dutyLives.count(life);
            for (int p = 0; p < people; p++) {
                if (p != life) changer.setCost(life, p, duties - course.countAble(city, now, p, life));
            }
        }
        changer.work();
        return k == NONE ? changer.cost() : changer.whoLives(k);
    }

    public int ring(int person) {
        if (!isPerson(person)) return NONE;
        int one = person;
        for (int k = 1; k <= MOST_PEOPLE && one != NONE; k++) {
            one = city.covered.get(one);
            if (one == person) return k;
        }
        return 0;
    }

    public int odds(int person, int life, int n) {
        if (!isPerson(person) || !isPerson(life) || person == life) return NONE;
        if (n < 0 || n > MOST_CALLS) return NONE;
        int people = city.people.size();
        int missing = 0;
        for (int called = 0; called < people; called++) {
            scratch.goHome(people);
            course.sendAway(city, scratch, called);
            if (scratch.lives.get(person) != life) missing++;
        }
        int all = 1;
        int missed = 1;
        for (int k = 0; k < n; k++) {
            all *= people;
            missed *= missing;
        }
        return all > 0 ? (all - missed) * 1000 / all : NONE;
    }

    // ---- acts

    public int go(int n) {
        if (n < 1 || n > MOST_HOURS || n > LAST_HOUR - now.hour) return refuse(2);
        past.remember(now);
        bring(now, n);
        return now.hour;
    }

    public int call(int person) {
        if (!isHere(person)) return refuse(2);
        past.remember(now);
        course.sendAway(city, now, person);
        return course.moved.size();
    }

    public boolean watch(int person, int life) {
        boolean can = isPerson(person) && (life == NONE || isPerson(life)) && life != person;
        if (!can || now.watched.get(person) == life) {
            refuse(3);
            return false;
        }
        past.remember(now);
        now.watched.put(person, life);
        return true;
    }

    public int teach(int person, int life, int n) {
        boolean can = isPerson(person) && isPerson(life) && life != person;
        if (!can || n < 0 || n > MOST_POINTS) return refuse(3);
        int before = now.pointsOf(person, life);
        past.remember(now);
        now.setPoints(person, life, n);
        return before;
    }

    public int bells(int n) {
        if (n < 1 || n > MOST_DAYS) return refuse(2);
        int lastNoon = now.hour + hoursTillNoon() + (n - 1) * DAY_HOURS;
        if (lastNoon + DAY_HOURS - NOON > LAST_HOUR) return refuse(2);
        past.remember(now);
        for (int day = 0; day < n; day++) {
            bring(now, hoursTillNoon());
            ringBell();
            bring(now, DAY_HOURS - NOON);
        }
        return now.hour;
    }

    public boolean undo() {
        if (past.recall(now)) return true;
        refuse(4);
        return false;
    }

    public boolean seed(int seed) {
        if (seed < 0) {
            refuse(5);
            return false;
        }
        this.seed = seed;
        return true;
    }

    // ---- slips

    public int slips(int life) {
        boolean told = isPerson(life) && areSlips();
        if (told) {
            slipped.copy(tape);
            slipLife = life;
        }
        tape.cut(0);
        return told ? slipped.size() / 3 : refuse(1);
    }

    public int who() {
        if (slipped.size() == 0) return NONE;
        int bits = 0;
        for (int p = 0; p < city.people.size(); p++) {
            if (fitsSlips(p)) bits |= 1 << p;
        }
        return bits;
    }

    // ---- questions

    public long ask(int person) {
        boolean there = isPerson(person);
        if (there) reader.start(tape);
        tape.cut(0);
        if (!there) return NOTHING;
        reader.readQuestion();
        return reader.fault != 0 ? NOTHING : answer(person);
    }

    // ---- images, refusals

    public int image() {
        int people = city.people.size();
        image.cut(0);
        image.add(now.hour / 256);
        image.add(now.hour % 256);
        for (int p = 0; p < people; p++) {
            image.add(now.lives.get(p) + 1);
            image.add(now.watched.get(p) + 1);
            for (int life = 0; life < people; life++) image.add(now.pointsOf(p, life));
        }
        image.add(checkOf(image, image.size()));
        return image.size();
    }

    public int octet(int k) {
        return image.get(k);
    }

    public boolean on() {
        boolean fits = isImage();
        if (fits) takeImage();
        tape.cut(0);
        if (!fits) refuse(5);
        return fits;
    }

    public int status(int what) {
        return refused.get(what);
    }

    // ---- what the calls share

    private int refuse(int what) {
        refused.put(what, refused.get(what) + 1);
        return NONE;
    }

    private boolean isPerson(int person) {
        return person >= 0 && person < city.people.size();
    }

    private boolean isTask(int task) {
        return task >= 0 && task < city.tasks.size();
    }

    private boolean isClock(int clock) {
        return clock >= 0 && clock < DAY_HOURS;
    }

    private boolean isHere(int person) {
        return isPerson(person) && now.lives.get(person) != NONE;
    }

    private void feedNumber(int number) {
        for (int shift = 24; shift >= 0; shift -= 8) tape.add(number >> shift & 255);
    }

    // as many LIVES are lived by nobody as there are PEOPLE away: none is lived by two
    private int countAway() {
        return now.lives.count(NONE);
    }

    private int countElsewhere() {
        int count = 0;
        for (int p = 0; p < city.people.size(); p++) {
            int life = now.lives.get(p);
            if (life != NONE && life != p) count++;
        }
        return count;
    }

    private void bring(Moment moment, int hours) {
        for (int k = 0; k < hours; k++) course.comes(city, moment);
    }

    private int hoursTillNoon() {
        return Math.floorMod(NOON - 1 - now.hour, DAY_HOURS) + 1;
    }

    private void ringBell() {
        int people = city.people.size();
        if (people == 0) return;
        seed = 1103515245L * seed + 12345L & 0x7fffffffL;
        int called = (int) (seed / 64 % people);
        if (isHere(called)) course.sendAway(city, now, called);
    }

    private boolean areSlips() {
        int size = tape.size();
        if (size == 0 || size % 3 != 0 || size > 3 * MOST_SLIPS) return false;
        for (int k = 0; k < size; k += 3) {
            if (!isClock(tape.get(k)) || !isTask(tape.get(k + 1)) || tape.get(k + 2) > 1) return false;
        }
        return true;
    }

    private boolean fitsSlips(int person) {
        for (int k = 0; k < slipped.size(); k += 3) {
            int task = slipped.get(k + 1);
            boolean able = course.ableNow(city, now, person, slipLife, task, slipped.get(k));
            if (able != (slipped.get(k + 2) == 1)) return false;
        }
        return true;
    }

    private long answer(int person) {
        Tally tally = new Tally();
        scratch.copy(now);
        course.forgetFailures();
        for (int k = 0; k < ASKED_HOURS && scratch.hour <= LAST_HOUR; k++) {
            course.setAskFacts(city, scratch, person);
            tally.count(scratch.hour, reader.question.value(course.facts));
            if (scratch.hour == LAST_HOUR) break;
            course.comes(city, scratch);
        }
        return tally.answer(reader.asked);
    }

    private static int checkOf(Row bytes, int size) {
        int check = 197;
        for (int k = 0; k < size; k++) check = (3 * check + bytes.get(k)) % 251;
        return check;
    }

    private boolean isImage() {
        int people = city.people.size();
        int last = 2 + people * (2 + people);
        if (tape.size() != last + 1 || tape.get(last) != checkOf(tape, last)) return false;
        if (tape.get(0) * 256 + tape.get(1) > LAST_HOUR) return false;
        int lived = 0;
        for (int p = 0; p < people; p++) {
            int at = 2 + p * (2 + people);
            int life = tape.get(at);
            int watched = tape.get(at + 1);
            if (life > people || watched > people || watched == p + 1) return false;
            if (life > 0 && (lived >> life & 1) == 1) return false;
            lived |= 1 << life;
            for (int k = 0; k < people; k++) {
                int points = tape.get(at + 2 + k);
                if (points > MOST_POINTS || k == p && points != MOST_POINTS) return false;
            }
        }
        return true;
    }

    private void takeImage() {
        int people = city.people.size();
        now.begin(city);
        past.clear();
        now.hour = tape.get(0) * 256 + tape.get(1);
        for (int p = 0; p < people; p++) {
            int at = 2 + p * (2 + people);
            now.lives.put(p, tape.get(at) - 1);
            now.watched.put(p, tape.get(at + 1) - 1);
            for (int life = 0; life < people; life++) now.setPoints(p, life, tape.get(at + 2 + life));
        }
    }

    /** Numbers in a row; a place that there is not is looked at before it is used: it tells NONE. */
    private static final class Row {
        private final int[] cells;
        private int size;

        Row(int room) {
            cells = new int[Math.max(room, 0)];
        }

        int size() {
            return size;
        }

        int get(int k) {
            return k >= 0 && k < size && k < cells.length ? cells[k] : NONE;
        }

        void put(int k, int value) {
            if (k >= 0 && k < size && k < cells.length) cells[k] = value;
        }

        void add(int value) {
            if (size >= 0 && size < cells.length) {
                cells[size] = value;
                size++;
            }
        }

        void insert(int k, int value) {
            add(value);
            for (int j = size - 1; j > k; j--) put(j, get(j - 1));
            put(k, value);
        }

        void cut(int n) {
            if (n >= 0 && n < size) size = n;
        }

        void fill(int n, int value) {
            size = Math.min(Math.max(n, 0), cells.length);
            for (int k = 0; k < size; k++) put(k, value);
        }

        void copy(Row other) {
            size = Math.min(other.size, cells.length);
            for (int k = 0; k < size; k++) put(k, other.get(k));
        }

        int find(int value) {
            for (int k = 0; k < size; k++) {
                if (get(k) == value) return k;
            }
            return NONE;
        }

        int count(int value) {
            int count = 0;
            for (int k = 0; k < size; k++) {
                if (get(k) == value) count++;
            }
            return count;
        }
    }

    /** A SUM or a TEST as steps for a stack: what they work on stands ahead of them. */
    private static final class Formula {
        static final int NUMBER = 0;
        static final int FACT = 1;
        static final int KNOWN = 2;
        static final int DENY = 3;
        static final int ADD = 4;
        static final int SUBTRACT = 5;
        static final int MULTIPLY = 6;
        static final int DIVIDE = 7;
        static final int LESSER = 8;
        static final int GREATER = 9;
        static final int BELOW = 10;
        static final int ABOVE = 11;
        static final int EQUAL = 12;
        static final int BOTH = 13;
        static final int EITHER = 14;
        // six that are open hold some six numbers back each
        private static final int STACK = 64;

        private final Row steps = new Row(MOST_TAPE);
        private final Row stack = new Row(STACK);

        Formula() {
            stack.fill(STACK, 0);
        }

        boolean isTold() {
            return steps.size() != 0;
        }

        void clear() {
            steps.cut(0);
        }

        void write(int step, int which) {
            steps.add(which << 4 | step);
        }

        int value(Row facts) {
            int top = NONE;
            for (int k = 0; k < steps.size(); k++) {
                int step = steps.get(k) & 15;
                int which = steps.get(k) >> 4;
                if (step == NUMBER || step == FACT) {
                    top++;
                    stack.put(top, step == NUMBER ? which : facts.get(which));
                } else if (step == KNOWN) {
                    stack.put(top, known(facts, stack.get(top)));
                } else if (step == DENY) {
                    stack.put(top, 1 - stack.get(top));
                } else {
                    top--;
                    stack.put(top, worked(step, stack.get(top), stack.get(top + 1)));
                }
            }
            return stack.get(top);
        }

        private static int known(Row facts, int life) {
            return life >= 0 && life < MOST_PEOPLE ? facts.get(KNOWN_FACTS + life) : 0;
        }

        private static int worked(int step, int a, int b) {
            switch (step) {
                case ADD: return held((long) a + b);
                case SUBTRACT: return held((long) a - b);
                case MULTIPLY: return held((long) a * b);
                case DIVIDE: return b == 0 ? 0 : Math.floorDiv(a, b);
                case LESSER: return Math.min(a, b);
                case GREATER: return Math.max(a, b);
                case BELOW: return a < b ? 1 : 0;
                case ABOVE: return a > b ? 1 : 0;
                case EQUAL: return a == b ? 1 : 0;
                case BOTH: return a & b;
                case EITHER: return a | b;
                default: return 0;
            }
        }

        // compares by itself: a ninth call, even one of the library, would be one too deep here
        private static int held(long value) {
            if (value > MOST_SUM) return MOST_SUM;
            return value < -MOST_SUM ? -MOST_SUM : (int) value;
        }
    }

    /** What a CITY's text tells. A NAME is a number: five bits a letter, the first one lowest. */
    private static final class City {
        final Row people = new Row(MOST_PEOPLE);
        final Row wards = new Row(MOST_PEOPLE);
        final Row covered = new Row(MOST_PEOPLE);
        final Row coverers = new Row(MOST_PEOPLE);
        final Row known = new Row(MOST_PEOPLE * MOST_PEOPLE);
        final Row tasks = new Row(MOST_TASKS);
        final Row hards = new Row(MOST_TASKS);
        // DUTIES stand by LIVES, then as they are told
        final Row dutyLives = new Row(MOST_DUTIES);
        final Row dutyTasks = new Row(MOST_DUTIES);
        final Row dutyClocks = new Row(MOST_DUTIES);
        final Formula learn = new Formula();
        final Formula forget = new Formula();
        final Formula can = new Formula();
        final Formula notice = new Formula();
        int statements;

        void clear() {
            people.cut(0);
            wards.cut(0);
            covered.cut(0);
            coverers.cut(0);
            known.fill(MOST_PEOPLE * MOST_PEOPLE, 0);
            tasks.cut(0);
            hards.cut(0);
            dutyLives.cut(0);
            dutyTasks.cut(0);
            dutyClocks.cut(0);
            learn.clear();
            forget.clear();
            can.clear();
            notice.clear();
            statements = 0;
        }

        boolean hasName(int name) {
            return people.find(name) != NONE || tasks.find(name) != NONE;
        }

        void addPerson(int name, int ward) {
            int own = people.size();
            people.add(name);
            wards.add(ward);
            covered.add(NONE);
            coverers.add(NONE);
            known.put(own * MOST_PEOPLE + own, MOST_POINTS);
        }

        void addTask(int name, int hard) {
            tasks.add(name);
            hards.add(hard);
        }

        boolean hasDuty(int life, int task, int clock) {
            for (int d = 0; d < dutyLives.size(); d++) {
                boolean alike = dutyLives.get(d) == life && dutyTasks.get(d) == task;
                if (alike && dutyClocks.get(d) == clock) return true;
            }
            return false;
        }

        void addDuty(int life, int task, int clock) {
            int place = 0;
            for (int d = 0; d < dutyLives.size(); d++) {
                if (dutyLives.get(d) <= life) place = d + 1;
            }
            dutyLives.insert(place, life);
            dutyTasks.insert(place, task);
            dutyClocks.insert(place, clock);
        }

        boolean sameWard(int one, int other) {
            return wards.get(one) == wards.get(other);
        }
    }

    /** How all stands in an HOUR, with what is KEPT so far. */
    private static final class Moment {
        private static final int PARTS = 4;

        int hour;
        final Row lives = new Row(MOST_PEOPLE);
        final Row watched = new Row(MOST_PEOPLE);
        private final Row points = new Row(MOST_PEOPLE * MOST_PEOPLE);
        private final Row kept = new Row(MOST_KEPT * PARTS);
        private int keptEver;

        void begin(City city) {
            int people = city.people.size();
            hour = 0;
            goHome(people);
            watched.fill(people, NONE);
            points.copy(city.known);
            kept.fill(MOST_KEPT * PARTS, NONE);
            keptEver = 0;
        }

        void goHome(int people) {
            lives.fill(people, 0);
            for (int p = 0; p < people; p++) lives.put(p, p);
        }

        void copy(Moment other) {
            hour = other.hour;
            lives.copy(other.lives);
            watched.copy(other.watched);
            points.copy(other.points);
            kept.copy(other.kept);
            keptEver = other.keptEver;
        }

        int pointsOf(int person, int life) {
            return points.get(person * MOST_PEOPLE + life);
        }

        void setPoints(int person, int life, int value) {
            points.put(person * MOST_PEOPLE + life, Math.max(0, Math.min(MOST_POINTS, value)));
        }

        void keep(int which, int life, int who) {
            int at = keptEver % MOST_KEPT * PARTS;
            kept.put(at, hour);
            kept.put(at + 1, which);
            kept.put(at + 2, life);
            kept.put(at + 3, who);
            keptEver++;
        }

        int keptCount() {
            return Math.min(keptEver, MOST_KEPT);
        }

        int keptPart(int k, int what) {
            if (k < 0 || k >= keptCount() || what < 0 || what >= PARTS) return NONE;
            int oldest = keptEver - keptCount();
            return kept.get((oldest + k) % MOST_KEPT * PARTS + what);
        }
    }

    /** The Moments ahead of the latest ACTS, round and round. */
    private static final class Past {
        private final Moment[] moments = new Moment[MOST_UNDONE];
        private int size;
        private int next;

        Past() {
            for (int k = 0; k < moments.length; k++) moments[k] = new Moment();
        }

        int size() {
            return size;
        }

        void clear() {
            size = 0;
        }

        void remember(Moment now) {
            Moment slot = slot(next);
            if (slot == null) return;
            slot.copy(now);
            next = (next + 1) % MOST_UNDONE;
            size = Math.min(size + 1, MOST_UNDONE);
        }

        boolean recall(Moment now) {
            Moment slot = slot(Math.floorMod(next - 1, MOST_UNDONE));
            if (size == 0 || slot == null) return false;
            now.copy(slot);
            next = Math.floorMod(next - 1, MOST_UNDONE);
            size--;
            return true;
        }

        private Moment slot(int k) {
            return k >= 0 && k < moments.length ? moments[k] : null;
        }
    }

    /** Lets HOURS come and CALLS go out, and tells what failed and who moved by it. */
    private static final class Course {
        final Row facts = new Row(FACT_COUNT);
        // of the latest CALL
        final Row moved = new Row(MOST_PEOPLE);
        int left = NONE;
        // since forgetFailures: how many LEFT and DRIED, and HOUR, which, LIFE of the first one
        final Row failures = new Row(2);
        final Row earliest = new Row(3);
        // in the latest HOUR, by PEOPLE
        final Row driedBy = new Row(MOST_PEOPLE);

        Course() {
            facts.fill(FACT_COUNT, 0);
        }

        void forgetFailures() {
            failures.fill(2, 0);
            earliest.cut(0);
            driedBy.fill(MOST_PEOPLE, 0);
        }

        void sendAway(City city, Moment moment, int person) {
            moved.cut(0);
            left = moment.lives.get(person);
            moment.lives.put(person, NONE);
            for (int k = 0; k < MOST_PEOPLE; k++) {
                int next = city.coverers.get(left);
                if (next == NONE || moment.lives.get(next) != next) return;
                moment.lives.put(next, left);
                moved.add(next);
                left = next;
            }
        }

        void comes(City city, Moment moment) {
            moment.hour++;
            int clock = moment.hour % DAY_HOURS;
            setTime(clock, moment.hour / DAY_HOURS);
            driedBy.fill(MOST_PEOPLE, 0);
            if (clock == 0) passNight(city, moment);
            int busy = 0;
            for (int d = 0; d < city.dutyClocks.size(); d++) {
                if (city.dutyClocks.get(d) == clock) {
                    busy |= 1 << city.dutyLives.get(d);
                    meetDuty(city, moment, city.dutyLives.get(d), city.dutyTasks.get(d));
                }
            }
            if (city.learn.isTold()) watchAll(city, moment, busy);
        }

        private void passNight(City city, Moment moment) {
            int people = city.people.size();
            moment.goHome(people);
            if (!city.forget.isTold()) return;
            for (int p = 0; p < people; p++) {
                for (int life = 0; life < people; life++) {
                    if (life != p) {
                        setKnower(city, p, life, moment.pointsOf(p, life));
                        moment.setPoints(p, life, city.forget.value(facts));
                    }
                }
            }
        }

        private void meetDuty(City city, Moment moment, int life, int task) {
            int who = moment.lives.find(life);
            if (who == NONE) {
                fail(moment, LEFT, life, NONE);
            } else if (!able(city, who, life, task, moment.pointsOf(who, life))) {
                driedBy.put(who, driedBy.get(who) + 1);
                fail(moment, DRIED, life, who);
            } else if (who != life && city.notice.isTold()) {
                noticeAll(city, moment, life, who);
            }
        }

        private void fail(Moment moment, int which, int life, int who) {
            moment.keep(which, life, who);
            failures.put(which, failures.get(which) + 1);
            if (earliest.size() == 0) {
                earliest.add(moment.hour);
                earliest.add(which);
                earliest.add(life);
            }
        }

        private void noticeAll(City city, Moment moment, int life, int who) {
            for (int p = 0; p < city.people.size(); p++) {
                if (p != who && p != life && moment.lives.get(p) != NONE) {
                    setKnower(city, p, life, moment.pointsOf(who, life));
                    facts.put(THEIRS, moment.pointsOf(p, life));
                    if (city.notice.value(facts) != 0) moment.keep(NOTICED, life, p);
                }
            }
        }

        private void watchAll(City city, Moment moment, int busy) {
            for (int p = 0; p < city.people.size(); p++) {
                int lived = moment.lives.get(p);
                int watched = moment.watched.get(p);
                if (watched != NONE && lived != NONE && (busy >> lived & 1) == 0) {
                    int points = moment.pointsOf(p, watched);
                    moment.setPoints(p, watched, learned(city, moment.hour, p, watched, points));
                }
            }
        }

        /** What one's points of a LIFE become by one HOUR of learning. */
        int learned(City city, int hour, int person, int life, int points) {
            if (!city.learn.isTold()) return points;
            setTime(hour % DAY_HOURS, hour / DAY_HOURS);
            setKnower(city, person, life, points);
            return Math.max(0, Math.min(MOST_POINTS, city.learn.value(facts)));
        }

        boolean ableNow(City city, Moment moment, int person, int life, int task, int clock) {
            setTime(clock, moment.hour / DAY_HOURS);
            return able(city, person, life, task, moment.pointsOf(person, life));
        }

        boolean ableInAll(City city, int hour, int person, int life, int points) {
            for (int d = 0; d < city.dutyLives.size(); d++) {
                if (city.dutyLives.get(d) == life) {
                    setTime(city.dutyClocks.get(d), hour / DAY_HOURS);
                    if (!able(city, person, life, city.dutyTasks.get(d), points)) return false;
                }
            }
            return true;
        }

        /** How many DUTIES of a LIFE one could do today, by his points of now. */
        int countAble(City city, Moment moment, int person, int life) {
            int count = 0;
            for (int d = 0; d < city.dutyLives.size(); d++) {
                if (city.dutyLives.get(d) == life) {
                    int task = city.dutyTasks.get(d);
                    int clock = city.dutyClocks.get(d);
                    if (ableNow(city, moment, person, life, task, clock)) count++;
                }
            }
            return count;
        }

        private boolean able(City city, int person, int life, int task, int points) {
            if (!city.can.isTold()) return true;
            facts.put(POINTS, points);
            facts.put(HARD, city.hards.get(task));
            facts.put(OWN, person == life ? 1 : 0);
            return city.can.value(facts) != 0;
        }

        private void setTime(int clock, int day) {
            facts.put(CLOCK, clock);
            facts.put(DAY, day);
        }

        private void setKnower(City city, int person, int life, int points) {
            facts.put(POINTS, points);
            facts.put(SAME, city.sameWard(person, life) ? 1 : 0);
        }

        void setAskFacts(City city, Moment moment, int person) {
            int people = city.people.size();
            int lived = moment.lives.get(person);
            setTime(moment.hour % DAY_HOURS, moment.hour / DAY_HOURS);
            facts.put(HOUR, moment.hour);
            facts.put(LIFE, lived == NONE ? AWAY : lived);
            facts.put(DRIES, driedBy.get(person));
            for (int life = 0; life < MOST_PEOPLE; life++) {
                facts.put(KNOWN_FACTS + life, life < people ? moment.pointsOf(person, life) : 0);
            }
        }
    }

    /** Finds CHANGE: LIVES are given out in their order, for each set of PEOPLE that have one. */
    private static final class Change {
        private static final int NEVER = 1000;

        private final Row costs = new Row(MOST_PEOPLE * MOST_PEOPLE);
        // the least that the LIVES still to give can cost, by the PEOPLE (bits) that have one
        private final Row rest = new Row(1 << MOST_PEOPLE);
        private final Row lived = new Row(MOST_PEOPLE);
        private int people;

        void begin(int people) {
            this.people = people;
            costs.fill(MOST_PEOPLE * MOST_PEOPLE, NEVER);
            rest.fill(1 << MOST_PEOPLE, NEVER);
            lived.cut(0);
        }

        void setCost(int life, int person, int cost) {
            costs.put(life * MOST_PEOPLE + person, cost);
        }

        void work() {
            int all = (1 << people) - 1;
            rest.put(all, 0);
            for (int given = all - 1; given >= 0; given--) {
                int life = Integer.bitCount(given);
                rest.put(given, costBy(given, life, cheapest(given, life)));
            }
            int given = 0;
            for (int life = 0; life < people; life++) {
                int person = cheapest(given, life);
                lived.add(person);
                given |= 1 << person;
            }
        }

        int cost() {
            return rest.get(0);
        }

        int whoLives(int life) {
            return lived.get(life);
        }

        // the first of like ones, so that the first way by LIVES is taken
        private int cheapest(int given, int life) {
            int found = NONE;
            int least = NONE;
            for (int p = 0; p < people; p++) {
                int cost = costBy(given, life, p);
                if ((given >> p & 1) == 0 && (found == NONE || cost < least)) {
                    found = p;
                    least = cost;
                }
            }
            return found;
        }

        private int costBy(int given, int life, int person) {
            return costs.get(life * MOST_PEOPLE + person) + rest.get(given | 1 << person);
        }
    }

    /** What a QUESTION asks of the values that its SUM or TEST has from HOUR to HOUR. */
    private static final class Tally {
        private int hours;
        private int first = NONE;
        private int last = NONE;
        private int often;
        private long total;
        private int most;
        private int least;

        void count(int hour, int value) {
            if (value != 0) {
                if (first == NONE) first = hour;
                last = hour;
                often++;
            }
            total += value;
            most = hours == 0 ? value : Math.max(most, value);
            least = hours == 0 ? value : Math.min(least, value);
            hours++;
        }

        long answer(int asked) {
            switch (asked) {
                case FIRST: return first;
                case LAST: return last;
                case OFTEN: return often;
                case TOTAL: return total;
                case MOST: return most;
                case LEAST: return least;
                default: return NOTHING;
            }
        }
    }

    /** Reads a text, as words, numbers and signs, into a CITY or a QUESTION, up to its FAULT. */
    private static final class Reader {
        private static final int WORD = 0;
        private static final int NUMBER = 1;
        private static final int SIGN = 2;
        private static final int STOP = 3;
        // a word or a number without the blank that it needs ahead of it
        private static final int STUCK = 4;

        // words, numbers, signs along the text; the last one is its STOP
        private final Row kinds = new Row(MOST_TAPE + 1);
        private final Row starts = new Row(MOST_TAPE + 1);
        private final Row lengths = new Row(MOST_TAPE + 1);
        // of a word its letters, as in a NAME; of a number itself; of a sign its byte
        private final Row values = new Row(MOST_TAPE + 1);
        // which of the words it is, or NONE
        private final Row numbers = new Row(MOST_TAPE + 1);
        private final Row words = new Row(WORD_COUNT);
        private int at;
        private Formula out = new Formula();
        private long parts;
        final Formula question = out;
        int asked;
        int fault;
        int place = NONE;

        Reader() {
            addWords(OWN_WORDS);
            addWords(ASK_WORDS);
        }

        private void addWords(String text) {
            int name = 0;
            int length = 0;
            for (int k = 0; k < text.length(); k++) {
                if (text.charAt(k) == ' ') {
                    words.add(name);
                    name = 0;
                    length = 0;
                } else {
                    name |= text.charAt(k) - 'a' + 1 << 5 * length;
                    length++;
                }
            }
        }

        // ---- from bytes to words, numbers and signs

        void start(Row tape) {
            kinds.cut(0);
            starts.cut(0);
            lengths.cut(0);
            values.cut(0);
            numbers.cut(0);
            at = 0;
            fault = 0;
            place = NONE;
            int k = 0;
            for (int turn = 0; turn < MOST_TAPE && k < tape.size(); turn++) k = scan(tape, k);
            put(STOP, tape.size(), 0, 0);
        }

        private void put(int kind, int start, int length, int value) {
            boolean known = kind == WORD && length <= MOST_LETTERS;
            kinds.add(kind);
            starts.add(start);
            lengths.add(length);
            values.add(value);
            numbers.add(known ? words.find(value) : NONE);
        }

        private int scan(Row tape, int k) {
            int sign = tape.get(k);
            if (sign == ' ' || sign == '\n') return k + 1;
            if (isLetter(sign)) return scanWord(tape, k);
            if (isDigit(sign)) return scanNumber(tape, k);
            put(SIGN, k, 1, sign);
            return k + 1;
        }

        private int scanWord(Row tape, int start) {
            int name = 0;
            int k = start;
            for (; k < tape.size() && isLetter(tape.get(k)); k++) {
                if (k - start < MOST_LETTERS) name |= tape.get(k) - 'a' + 1 << 5 * (k - start);
            }
            put(isDigit(tape.get(start - 1)) ? STUCK : WORD, start, k - start, name);
            return k;
        }

        private int scanNumber(Row tape, int start) {
            int number = 0;
            int k = start;
            for (; k < tape.size() && isDigit(tape.get(k)); k++) {
                if (k - start < MOST_DIGITS) number = 10 * number + tape.get(k) - '0';
            }
            put(isLetter(tape.get(start - 1)) ? STUCK : NUMBER, start, k - start, number);
            return k;
        }

        private static boolean isLetter(int sign) {
            return sign >= 'a' && sign <= 'z';
        }

        private static boolean isDigit(int sign) {
            return sign >= '0' && sign <= '9';
        }

        // ---- the next one of them

        private boolean fine() {
            return fault == 0;
        }

        private void fail(int kind, int where) {
            if (fault != 0) return;
            fault = kind;
            place = where;
        }

        private int here() {
            return starts.get(at);
        }

        private int word() {
            return numbers.get(at);
        }

        private boolean isSign(int sign) {
            return fine() && kinds.get(at) == SIGN && values.get(at) == sign;
        }

        private boolean isWord(int word) {
            return fine() && word() == word;
        }

        private void take() {
            if (fine() && kinds.get(at) != STOP) at++;
        }

        private void takeSign(int sign) {
            if (isSign(sign)) take();
            else fail(1, here());
        }

        private void takeWord(int word) {
            if (isWord(word)) take();
            else fail(1, here());
        }

        private int takeName() {
            int word = word();
            if (kinds.get(at) != WORD || word != NONE && word < OWN_COUNT) {
                fail(1, here());
            } else if (lengths.get(at) > MOST_LETTERS) {
                fail(1, here() + MOST_LETTERS);
            }
            int name = values.get(at);
            take();
            return name;
        }

        private int takeNumber(int most) {
            if (kinds.get(at) != NUMBER) {
                fail(1, here());
            } else if (lengths.get(at) > MOST_DIGITS) {
                fail(1, here() + MOST_DIGITS);
            } else if (values.get(at) > most) {
                fail(2, here());
            }
            int number = values.get(at);
            take();
            return number;
        }

        // what opens a seventh one at once fails at its own place
        private void takeOpening(int open) {
            if (open >= MOST_OPEN) fail(4, here());
            take();
        }

        // ---- a CITY

        void readCity(City city) {
            city.clear();
            for (int k = 0; k <= MOST_STATEMENTS && fine() && kinds.get(at) != STOP; k++) {
                int word = word();
                if (k == MOST_STATEMENTS || isTooMany(city, word)) fail(5, here());
                else if (word == PERSON || word == TASK) readGiven(city, word);
                else if (word == DOES) readDuty(city);
                else if (word == COVERS) readCover(city);
                else if (word == KNOWS) readKnowing(city);
                else if (word >= LEARN && word <= NOTICE) readRule(city, word);
                else fail(1, here());
                takeSign(';');
                city.statements++;
            }
        }

        private static boolean isTooMany(City city, int word) {
            switch (word) {
                case PERSON: return city.people.size() >= MOST_PEOPLE;
                case TASK: return city.tasks.size() >= MOST_TASKS;
                case DOES: return city.dutyLives.size() >= MOST_DUTIES;
                case LEARN: return city.learn.isTold();
                case FORGET: return city.forget.isTold();
                case CAN: return city.can.isTold();
                case NOTICE: return city.notice.isTold();
                default: return false;
            }
        }

        private void readGiven(City city, int sort) {
            take();
            int where = here();
            int name = takeName();
            if (city.hasName(name)) fail(3, where);
            takeWord(sort == PERSON ? WARD : HARD);
            int number = takeNumber(sort == PERSON ? MOST_WARD : MOST_POINTS);
            if (!fine()) return;
            if (sort == PERSON) city.addPerson(name, number);
            else city.addTask(name, number);
        }

        private int takeKnown(Row names) {
            int where = here();
            int found = names.find(takeName());
            if (found == NONE) fail(3, where);
            return found;
        }

        private void readDuty(City city) {
            take();
            int life = takeKnown(city.people);
            int task = takeKnown(city.tasks);
            takeWord(AT);
            int where = here();
            int clock = takeNumber(DAY_HOURS - 1);
            if (city.hasDuty(life, task, clock)) fail(2, where);
            if (fine()) city.addDuty(life, task, clock);
        }

        private void readCover(City city) {
            take();
            int where = here();
            int who = takeKnown(city.people);
            if (city.covered.get(who) != NONE) fail(3, where);
            where = here();
            int life = takeKnown(city.people);
            if (life == who || city.coverers.get(life) != NONE) fail(3, where);
            if (!fine()) return;
            city.covered.put(who, life);
            city.coverers.put(life, who);
        }

        private void readKnowing(City city) {
            take();
            int who = takeKnown(city.people);
            int where = here();
            int life = takeKnown(city.people);
            if (life == who) fail(3, where);
            int points = takeNumber(MOST_POINTS);
            if (fine()) city.known.put(who * MOST_PEOPLE + life, points);
        }

        private void readRule(City city, int word) {
            take();
            if (word == LEARN || word == FORGET) {
                out = word == LEARN ? city.learn : city.forget;
                parts = LEARN_FACTS;
                readSum(0);
            } else {
                out = word == CAN ? city.can : city.notice;
                parts = word == CAN ? CAN_FACTS : NOTICE_FACTS;
                readTest(0);
            }
        }

        // ---- a QUESTION

        void readQuestion() {
            asked = word();
            out = question;
            out.clear();
            parts = ASK_FACTS;
            boolean test = asked == FIRST || asked == LAST || asked == OFTEN;
            boolean sum = asked == TOTAL || asked == MOST || asked == LEAST;
            if (!test && !sum) fail(1, here());
            take();
            if (test) readTest(0);
            else readSum(0);
            if (kinds.get(at) != STOP) fail(1, here());
        }

        // ---- SUMS and TESTS; open: how many ( [ not points are open

        private void readTest(int open) {
            readBoth(open);
            for (int k = 0; k < MOST_TAPE && isWord(OR); k++) {
                take();
                readBoth(open);
                out.write(Formula.EITHER, 0);
            }
        }

        private void readBoth(int open) {
            readFact(open);
            for (int k = 0; k < MOST_TAPE && isWord(AND); k++) {
                take();
                readFact(open);
                out.write(Formula.BOTH, 0);
            }
        }

        private void readFact(int open) {
            if (!fine() || open > MOST_OPEN) return;
            if (isWord(NOT)) {
                takeOpening(open);
                readFact(open + 1);
                out.write(Formula.DENY, 0);
            } else if (isSign('[')) {
                takeOpening(open);
                readTest(open + 1);
                takeSign(']');
            } else if (isWord(ALL)) {
                take();
                out.write(Formula.NUMBER, 1);
            } else {
                readSum(open);
                int step = comparison();
                if (step == NONE) fail(1, here());
                take();
                readSum(open);
                out.write(step, 0);
            }
        }

        private int comparison() {
            if (isSign('<')) return Formula.BELOW;
            if (isSign('>')) return Formula.ABOVE;
            return isSign('=') ? Formula.EQUAL : NONE;
        }

        private void readSum(int open) {
            readProduct(open);
            for (int k = 0; k < MOST_TAPE && (isSign('+') || isSign('-')); k++) {
                int step = isSign('+') ? Formula.ADD : Formula.SUBTRACT;
                take();
                readProduct(open);
                out.write(step, 0);
            }
        }

        private void readProduct(int open) {
            readPart(open);
            for (int k = 0; k < MOST_TAPE && (isSign('*') || isSign('/')); k++) {
                int step = isSign('*') ? Formula.MULTIPLY : Formula.DIVIDE;
                take();
                readPart(open);
                out.write(step, 0);
            }
        }

        private void readPart(int open) {
            if (!fine() || open > MOST_OPEN) return;
            int word = word();
            if (kinds.get(at) == NUMBER) {
                out.write(Formula.NUMBER, takeNumber(MOST_NUMBER));
            } else if (isSign('(')) {
                takeOpening(open);
                readSum(open + 1);
                takeSign(')');
            } else if (word == MIN || word == MAX) {
                readPair(open, word == MIN ? Formula.LESSER : Formula.GREATER);
            } else if (word == POINTS && parts == ASK_FACTS) {
                takeOpening(open);
                readPart(open + 1);
                out.write(Formula.KNOWN, 0);
            } else if (word != NONE && (parts >> word & 1) == 1) {
                take();
                out.write(Formula.FACT, word);
            } else {
                fail(1, here());
            }
        }

        private void readPair(int open, int step) {
            take();
            if (!isSign('(')) fail(1, here());
            takeOpening(open);
            readSum(open + 1);
            takeSign(',');
            readSum(open + 1);
            takeSign(')');
            out.write(step, 0);
        }
    }
}
