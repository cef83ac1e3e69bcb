import java.io.PrintWriter;
import java.io.StringWriter;
import java.nio.file.Path;
import java.util.ArrayList;
import java.util.List;
import java.util.Map;
import java.util.Set;
import java.util.TreeMap;
import java.util.TreeSet;
import java.util.regex.Matcher;
import java.util.regex.Pattern;
import java.util.spi.ToolProvider;

/** What of ../shared/LANGUAGE.md only the compiled calls show: how deep they go, and where objects are made. */
public final class CallsTest {
    private static final int DEEPEST = 8;
    private static final Pattern HEAD = Pattern.compile("  (?:[\\w$.\\[\\]]+ )*([\\w$.]+)\\(.*\\);");
    private static final Pattern CALL = Pattern.compile(".* invoke\\w+ .*// (?:Interface)?Method ([^:]+):.*");
    private static final Pattern MAKE = Pattern.compile(".*: (new|newarray|anewarray|multianewarray|invokedynamic)\\b.*");

    /** By each method, told as Class.method, those that it calls. */
    private static final Map<String, Set<String>> calls = new TreeMap<>();

    public static void main(String[] args) throws Exception {
        ToolProvider javap = ToolProvider.findFirst("javap").orElse(null);
        if (javap == null) {
            System.out.println("CallsTest: there is no javap here, so nothing is asked");
            return;
        }
        read("NineCopies", shown(javap, "NineCopies"));
        for (Class<?> inside : NineCopies.class.getDeclaredClasses()) {
            read(inside.getName(), shown(javap, inside.getName()));
        }
        Check.yes("there are calls to look at", calls.size() > 100);
        for (Class<?> inside : NineCopies.class.getDeclaredClasses()) {
            Check.yes("calls of " + inside, calls.keySet().stream().anyMatch(m -> m.startsWith(inside.getName() + ".")));
        }
        for (String method : calls.keySet()) {
            List<String> way = deepest(method, new ArrayList<>());
            Check.yes("at most eight deep: " + way, way.size() <= DEEPEST);
        }
        Set<String> recursive = new TreeSet<>();
        for (String method : calls.keySet()) {
            if (reached(method).contains(method)) {
                recursive.add(method);
            }
        }
        Check.yes("only brackets and nots go round: " + recursive,
                recursive.equals(Set.of("NineCopies$Reader.readChoice", "NineCopies$Reader.readTest")));
        Check.finish("CallsTest");
    }

    private static String shown(ToolProvider javap, String type) throws Exception {
        String place = Path.of(NineCopies.class.getProtectionDomain().getCodeSource().getLocation().toURI()).toString();
        StringWriter out = new StringWriter();
        PrintWriter told = new PrintWriter(out);
        Check.same("javap of " + type, javap.run(told, told, "-c", "-p", "-cp", place, type), 0);
        return out.toString();
    }

    private static void read(String type, String shown) {
        String method = "";
        for (String line : shown.lines().toList()) {
            Matcher head = HEAD.matcher(line);
            Matcher call = CALL.matcher(line);
            if (head.matches()) {
                method = type + "." + (head.group(1).equals(type) ? "new" : head.group(1));
                calls.putIfAbsent(method, new TreeSet<>());
            } else if (line.equals("  static {};")) {
                method = type + ".new";
                calls.putIfAbsent(method, new TreeSet<>());
            } else if (call.matches()) {
                String called = call.group(1).replace("\"<init>\"", "new");
                calls.get(method).add(called.contains(".") ? called : type + "." + called);
            }
            Check.no("made outside of a constructor: " + method + line,
                    MAKE.matcher(line).matches() && !method.endsWith(".new"));
        }
    }

    /** The longest chain of calls from a method on, none twice; the library's methods end it. */
    private static List<String> deepest(String method, List<String> open) {
        List<String> best = new ArrayList<>();
        open.add(method);
        for (String called : calls.getOrDefault(method, Set.of())) {
            if (!open.contains(called)) {
                List<String> way = deepest(called, open);
                best = way.size() > best.size() ? way : best;
            }
        }
        open.remove(method);
        best.add(0, method);
        return best;
    }

    private static Set<String> reached(String method) {
        Set<String> found = new TreeSet<>();
        List<String> ahead = new ArrayList<>(calls.getOrDefault(method, Set.of()));
        while (!ahead.isEmpty()) {
            String next = ahead.remove(ahead.size() - 1);
            if (found.add(next)) {
                ahead.addAll(calls.getOrDefault(next, Set.of()));
            }
        }
        return found;
    }
}
