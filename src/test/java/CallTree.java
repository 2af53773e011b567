import java.io.PrintWriter;
import java.io.StringWriter;
import java.util.ArrayList;
import java.util.HashMap;
import java.util.LinkedHashSet;
import java.util.List;
import java.util.Map;
import java.util.Set;
import java.util.regex.Matcher;
import java.util.regex.Pattern;
import java.util.spi.ToolProvider;

/** Which method of a class, and of the classes inside it, calls which, as their compiled code tells. */
final class CallTree {
    private static final Pattern CLASS = Pattern.compile("(?:[a-z]+ )*class ([\\w$]+)(?: .*)?\\{");
    private static final Pattern METHOD = Pattern.compile("  (?:[\\w$.\\[\\]]+ )*([\\w$]+)\\(.*\\);");
    private static final Pattern CALL = Pattern.compile(".*// (?:Interface)?Method ([^:]+):.*");

    /** For each method, written as Class.method, those that it calls; methods of one name are taken together. */
    private final Map<String, Set<String>> called = new HashMap<>();
    private final Map<String, List<String>> longest = new HashMap<>();

    CallTree(Class<?> face) {
        List<String> asked = new ArrayList<>(List.of("-c", "-p", "-cp", System.getProperty("java.class.path"), face.getName()));
        for (Class<?> inside : face.getDeclaredClasses()) asked.add(inside.getName());
        StringWriter code = new StringWriter();
        PrintWriter to = new PrintWriter(code);
        ToolProvider.findFirst("javap").orElseThrow().run(to, to, asked.toArray(new String[0]));
        String owner = "";
        String method = "";
        for (String line : code.toString().split("\\R")) {
            Matcher m = CLASS.matcher(line);
            if (m.matches()) owner = m.group(1);
            m = METHOD.matcher(line);
            if (m.matches()) method = owner + "." + (m.group(1).equals(owner) ? "<init>" : m.group(1));
            if (m.matches()) called.putIfAbsent(method, new LinkedHashSet<>());
            m = CALL.matcher(line);
            if (m.matches()) called.get(method).add(written(m.group(1), owner));
        }
    }

    /** A call's name with its class; javap leaves out the class that it tells of, and puts some names in quotes. */
    private static String written(String call, String owner) {
        String name = call.replace("\"", "").replace('/', '.');
        return name.contains(".") ? name : owner + "." + name;
    }

    /** The longest row of the class's own methods, each called by the one before; a method that comes back to itself ends it. */
    List<String> longestFrom(String method) {
        if (longest.containsKey(method)) return longest.get(method);
        longest.put(method, List.of());
        List<String> best = List.of();
        for (String next : called.getOrDefault(method, Set.of())) {
            List<String> chain = called.containsKey(next) ? longestFrom(next) : List.of();
            if (chain.size() > best.size()) best = chain;
        }
        List<String> all = new ArrayList<>(List.of(method));
        all.addAll(best);
        longest.put(method, all);
        return all;
    }
}
