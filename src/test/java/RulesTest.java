import java.io.IOException;
import java.lang.management.ManagementFactory;
import java.lang.reflect.Field;
import java.lang.reflect.Method;
import java.lang.reflect.Modifier;
import java.nio.file.Files;
import java.nio.file.Path;
import java.util.List;
import java.util.Random;
import java.util.Set;
import java.util.TreeSet;
import java.util.regex.Pattern;

/** The face, the rules of LANGUAGE.md, that no call throws, and how much a long run makes. */
final class RulesTest {
    private static final Set<String> FACE = Set.of("int feed(int,int,int,int,int)", "boolean end(int)", "int city()",
            "int fault(int)", "int has(int)", "int letter(int,int,int)", "int person(int,int)", "int points(int,int)",
            "int could(int,int,int,int)", "int kept(int,int)", "int wave(int,int)", "int would(int,int)", "int first(int)",
            "int best(int,int)", "int study(int,int)", "int change(int)", "int ring(int)", "int odds(int,int,int)",
            "int go(int)", "int call(int)", "boolean watch(int,int)", "int teach(int,int,int)", "int bells(int)",
            "boolean undo()", "boolean seed(int)", "int slips(int)", "int who()", "long ask(int)", "int image()",
            "int octet(int)", "boolean on()", "int status(int)");
    private static final String[] BANNED = {"\\b(throw|throws|try|catch|synchronized|assert|import|package|instanceof)\\b", "->", "::",
        "\\b(float|double|Object|System|HashMap|Thread|enum|record)\\b", "[^\\x00-\\x7f]", "\\bInteger\\.[A-Z]", "Exact\\("};

    private RulesTest() {
    }

    private static String shape(Method m) {
        StringBuilder text = new StringBuilder(m.getReturnType().getSimpleName()).append(' ').append(m.getName()).append('(');
        for (Class<?> c : m.getParameterTypes()) text.append(text.toString().endsWith("(") ? "" : ",").append(c.getSimpleName());
        return text.append(')').toString();
    }

    private static void face() {
        Check.yes("final and public", Modifier.isFinal(NoonBell.class.getModifiers()) && Modifier.isPublic(NoonBell.class.getModifiers()));
        Set<String> names = new TreeSet<>();
        Set<String> seen = new TreeSet<>();
        for (Method m : NoonBell.class.getDeclaredMethods()) {
            if (Modifier.isPublic(m.getModifiers())) {
                seen.add(shape(m));
                names.add(m.getName());
            } else {
                Check.yes(m + " is private", Modifier.isPrivate(m.getModifiers()));
            }
        }
        Check.yes("the face: " + seen, seen.equals(FACE));
        int classes = 0;
        for (Class<?> c : inside()) {
            classes++;
            Check.yes(c + " is static", c == NoonBell.class || Modifier.isStatic(c.getModifiers()));
            for (Method m : c.getDeclaredMethods()) {
                Check.no(m + " bears a public name", c != NoonBell.class && names.contains(m.getName()));
                Check.yes(m + " takes seven at most", m.getParameterCount() <= 7);
            }
            fields(c);
        }
        Check.yes("twelve classes at most", classes <= 12);
    }

    private static List<Class<?>> inside() {
        List<Class<?>> all = new java.util.ArrayList<>(List.of(NoonBell.class.getDeclaredClasses()));
        all.add(NoonBell.class);
        return all;
    }

    private static void fields(Class<?> c) {
        int own = 0;
        for (Field f : c.getDeclaredFields()) {
            int m = f.getModifiers();
            if (Modifier.isStatic(m)) Check.yes(f + " is final", Modifier.isFinal(m));
            else own++;
            boolean face = f.getName().equals("NONE") || f.getName().equals("NOTHING");
            if (c == NoonBell.class && !face) Check.yes(f + " is private", Modifier.isPrivate(m));
        }
        Check.yes("twenty fields at most in " + c, own <= 20);
    }

    private static void source() throws IOException {
        String text = Files.readString(Path.of("src/main/java/NoonBell.java"));
        String code = text.replaceAll("(?s)/\\*.*?\\*/", "").replaceAll("//[^\n]*", "").replaceAll("\"[^\"\n]*\"", "\"\"");
        for (String banned : BANNED) Check.no("found: " + banned, Pattern.compile(banned).matcher(code).find());
        int start = 0;
        int number = 0;
        for (String line : text.split("\n")) {
            number++;
            if (line.matches("( {4}| {8})(public |private |static )*[A-Za-z<>]+ ?[a-zA-Z]*\\(.*\\) \\{")) start = number;
            if (line.matches(" {4}| {8}\\}") && start > 0) {
                Check.yes("a method of sixty lines at most, line " + start, number - start <= 60);
                start = 0;
            }
        }
    }

    /** A CITY as large as the tape takes, with SUMS and TESTS in all four rules. */
    private static String large() {
        StringBuilder text = new StringBuilder();
        for (int k = 0; k < 10; k++) text.append("person ").append((char) ('a' + k)).append(" ward ").append(k % 3).append(';');
        for (int k = 0; k < 8; k++) text.append("task t").append((char) ('a' + k)).append(" hard ").append(9 * k).append(';');
        for (int k = 0; k < 24; k++) {
            text.append("does ").append((char) ('a' + k % 10)).append(" t").append((char) ('a' + k % 8)).append(" at ").append(k).append(';');
        }
        for (int k = 0; k < 10; k++) text.append("covers ").append((char) ('a' + k)).append(' ').append((char) ('a' + (k + 1) % 10)).append(';');
        text.append("learn points+1+same*(clock-day);forget max(points-2,points*9/10);");
        text.append("can points>hard or own=1 and clock<24;notice theirs>points-5 or same=1;");
        for (int k = 0; k < 14; k++) text.append("knows a b 1;");
        return text.toString();
    }

    private static void hostile() {
        Random random = new Random(3);
        int[] odd = {0, 1, -1, 2, 3, 9, 10, 20, 23, 24, 40, 99, 100, 255, 1600, 9999, Integer.MAX_VALUE, Integer.MIN_VALUE, 1 << 30, -20};
        for (int run = 0; run < 300; run++) {
            NoonBell bell = run % 3 == 0 ? new NoonBell() : Check.of(large());
            for (int k = 0; k < 512; k++) {
                int[] n = new int[5];
                for (int j = 0; j < 5; j++) n[j] = random.nextInt(3) == 0 ? random.nextInt() : odd[random.nextInt(odd.length)];
                any(bell, random.nextInt(32), n);
            }
            Check.yes("PEOPLE", bell.has(0) >= 0);
        }
    }

    private static void any(NoonBell bell, int which, int[] n) {
        switch (which) {
            case 0: bell.feed(n[0], n[1], n[2], n[3], n[4]); break;
            case 1: bell.end(n[0]); break;
            case 2: bell.city(); break;
            case 3: bell.fault(n[0]); break;
            case 4: bell.has(n[0]); break;
            case 5: bell.letter(n[0], n[1], n[2]); break;
            case 6: bell.person(n[0], n[1]); break;
            case 7: bell.points(n[0], n[1]); break;
            case 8: bell.could(n[0], n[1], n[2], n[3]); break;
            case 9: bell.kept(n[0], n[1]); break;
            case 10: bell.wave(n[0], n[1]); break;
            case 11: bell.would(n[0], n[1]); break;
            case 12: bell.first(n[0]); break;
            case 13: bell.best(n[0], n[1]); break;
            case 14: bell.study(n[0], n[1]); break;
            case 15: bell.change(n[0]); break;
            case 16: bell.ring(n[0]); break;
            case 17: bell.odds(n[0], n[1], n[2]); break;
            case 18: bell.go(n[0]); break;
            case 19: bell.call(n[0]); break;
            case 20: bell.watch(n[0], n[1]); break;
            case 21: bell.teach(n[0], n[1], n[2]); break;
            case 22: bell.bells(n[0]); break;
            case 23: bell.undo(); break;
            case 24: bell.seed(n[0]); break;
            case 25: bell.slips(n[0]); break;
            case 26: bell.who(); break;
            case 27: bell.ask(n[0]); break;
            case 28: bell.image(); break;
            case 29: bell.octet(n[0]); break;
            case 30: bell.on(); break;
            default: bell.status(n[0]); break;
        }
    }

    /** What an object and its 512 calls make, in bytes: far below the room's elements. */
    private static void room() {
        com.sun.management.ThreadMXBean threads = (com.sun.management.ThreadMXBean) ManagementFactory.getThreadMXBean();
        NoonBell first = Check.of(large());
        dear(first);
        long before = threads.getCurrentThreadAllocatedBytes();
        NoonBell bell = new NoonBell();
        long made = threads.getCurrentThreadAllocatedBytes();
        Check.yes("an object: " + (made - before), made - before < 400_000);
        Check.feed(bell, large());
        bell.city();
        before = threads.getCurrentThreadAllocatedBytes();
        for (int k = 0; k < 40; k++) dear(bell);
        made = threads.getCurrentThreadAllocatedBytes();
        Check.yes("its calls: " + (made - before), made - before < 100_000);
    }

    private static void dear(NoonBell bell) {
        bell.go(500);
        bell.bells(20);
        bell.change(3);
        bell.first(0);
        bell.would(1, 1);
        bell.study(1, 2);
        bell.odds(2, 3, 4);
        bell.call(4);
        bell.undo();
        bell.undo();
        bell.undo();
        bell.ask(1);
        bell.image();
        bell.on();
    }

    public static void main(String[] args) throws IOException {
        face();
        source();
        hostile();
        room();
        Check.end("RulesTest");
    }
}
