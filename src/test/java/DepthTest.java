import java.io.PrintWriter;
import java.io.StringWriter;
import java.util.ArrayList;
import java.util.LinkedHashMap;
import java.util.List;
import java.util.Map;
import java.util.Set;
import java.util.TreeSet;
import java.util.regex.Matcher;
import java.util.regex.Pattern;
import java.util.spi.ToolProvider;

/** Rule 11: how deep the calls that are no recursion go, a call of the library counted as one, too. */
final class DepthTest {
    private static final int DEEPEST = 8;
    private static final Pattern CLASS = Pattern.compile("^\\S.*class (\\S+) .*\\{$");
    private static final Pattern METHOD = Pattern.compile("^  \\S.*?([\\w$]+)\\(.*\\);$");
    private static final Pattern CALL = Pattern.compile("invoke\\w+ .*Method (\\S+?):");

    private final Map<String, Set<String>> calls = new LinkedHashMap<>();

    private DepthTest(String code) {
        String owner = "";
        String method = "";
        for (String line : code.split("\n")) {
            Matcher found = CLASS.matcher(line);
            if (found.find()) owner = found.group(1);
            found = METHOD.matcher(line);
            if (found.find()) {
                method = owner + "." + (found.group(1).equals(owner) ? "<init>" : found.group(1));
                calls.putIfAbsent(method, new TreeSet<>());
            }
            found = CALL.matcher(line);
            if (found.find()) calls.get(method).add(whole(owner, found.group(1).replace("\"", "")));
        }
    }

    private static String whole(String owner, String called) {
        return called.contains(".") ? called : owner + "." + called;
    }

    /** All that a method reaches; itself, too, if it calls itself in the end. */
    private Set<String> reached(String method) {
        Set<String> all = new TreeSet<>();
        List<String> open = new ArrayList<>(List.of(method));
        while (!open.isEmpty()) {
            for (String next : calls.getOrDefault(open.remove(0), Set.of())) if (all.add(next)) open.add(next);
        }
        return all;
    }

    /** The methods that call one another with this one: a recursion, which counts as one. */
    private Set<String> circle(String method) {
        Set<String> all = new TreeSet<>(Set.of(method));
        for (String other : reached(method)) if (reached(other).contains(method)) all.add(other);
        return all;
    }

    private List<String> deepest(String method) {
        Set<String> circle = circle(method);
        List<String> most = List.of();
        for (String one : circle) {
            for (String next : calls.getOrDefault(one, Set.of())) {
                List<String> below = circle.contains(next) || next.equals("java/lang/Object.<init>") ? List.of() : deepest(next);
                if (below.size() > most.size()) most = below;
            }
        }
        List<String> all = new ArrayList<>(List.of(circle.size() == 1 ? method : circle.toString()));
        all.addAll(most);
        return all;
    }

    private static String disassembled() {
        StringWriter text = new StringWriter();
        PrintWriter out = new PrintWriter(text);
        List<String> options = new ArrayList<>(List.of("-c", "-p", "-cp", System.getProperty("java.class.path"), "NoonBell"));
        for (Class<?> inside : NoonBell.class.getDeclaredClasses()) options.add(inside.getName());
        ToolProvider tool = ToolProvider.findFirst("javap").orElse(null);
        if (tool != null) tool.run(out, out, options.toArray(new String[0]));
        out.flush();
        return text.toString();
    }

    public static void main(String[] args) {
        String code = disassembled();
        if (code.isEmpty()) {
            System.out.println("DepthTest: this JDK has no javap, so nothing was asked");
            return;
        }
        DepthTest test = new DepthTest(code);
        Check.yes("the methods were found", test.calls.containsKey("NoonBell.status"));
        for (String method : test.calls.keySet()) {
            List<String> chain = test.deepest(method);
            Check.yes("eight deep at most: " + chain, chain.size() <= DEEPEST);
        }
        Check.end("DepthTest");
    }
}
