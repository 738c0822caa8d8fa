import java.io.PrintWriter;
import java.io.StringWriter;
import java.util.ArrayList;
import java.util.HashMap;
import java.util.List;
import java.util.Map;
import java.util.Set;
import java.util.TreeMap;
import java.util.TreeSet;
import java.util.regex.Matcher;
import java.util.regex.Pattern;
import java.util.spi.ToolProvider;

/** Which method of the class calls which, read from its bytecode by the javap that comes with javac. */
final class Calls {
    private static final Pattern CLASS = Pattern.compile("class ([\\w$]+)");
    private static final Pattern METHOD = Pattern.compile("  \\S.*?([\\w$]+)\\([^)]*\\);");
    private static final Pattern CALL = Pattern.compile("\\d+: invoke\\w+ .*// Method (?:([\\w/$]+)\\.)?\"?([\\w<>$]+)\"?:.*");

    private final Map<String, Set<String>> called = new TreeMap<>();
    private final Map<String, Integer> depths = new HashMap<>();

    static boolean canBeRead() {
        return ToolProvider.findFirst("javap").isPresent();
    }

    /** Reads the class and all classes inside it. */
    Calls(Class<?> outer) {
        read(outer);
        for (Class<?> inside : outer.getDeclaredClasses()) {
            read(inside);
        }
    }

    private void read(Class<?> type) {
        StringWriter told = new StringWriter();
        PrintWriter out = new PrintWriter(told);
        ToolProvider javap = ToolProvider.findFirst("javap").orElseThrow();
        if (javap.run(out, out, "-c", "-p", "-cp", System.getProperty("java.class.path"), type.getName()) != 0) {
            throw new IllegalStateException(told.toString());
        }
        String name = "";
        Set<String> calls = new TreeSet<>();
        for (String line : told.toString().split("\n")) {
            Matcher isClass = CLASS.matcher(line);
            Matcher isMethod = METHOD.matcher(line);
            Matcher isCall = CALL.matcher(line.trim());
            if (name.isEmpty() && isClass.find()) {
                name = isClass.group(1);
            } else if (isMethod.matches()) {
                String method = isMethod.group(1).equals(name) ? "<init>" : isMethod.group(1);
                calls = called.computeIfAbsent(name + "." + method, key -> new TreeSet<>());
            } else if (isCall.matches() && !String.valueOf(isCall.group(1)).startsWith("java/")) {
                calls.add((isCall.group(1) == null ? name : isCall.group(1)) + "." + isCall.group(2));
            }
        }
    }

    Set<String> methods() {
        return called.keySet();
    }

    /** All that a method may call, itself or by others. */
    private Set<String> reachable(String method) {
        Set<String> seen = new TreeSet<>();
        List<String> left = new ArrayList<>(called.getOrDefault(method, Set.of()));
        while (!left.isEmpty()) {
            String next = left.remove(left.size() - 1);
            if (seen.add(next)) {
                left.addAll(called.getOrDefault(next, Set.of()));
            }
        }
        return seen;
    }

    /** The methods that may come to be called by themselves. */
    Set<String> recursive() {
        Set<String> all = new TreeSet<>();
        for (String method : called.keySet()) {
            if (reachable(method).contains(method)) {
                all.add(method);
            }
        }
        return all;
    }

    /** How many calls stand open at most, this one too; those which call one another count once each. */
    int depth(String method) {
        Integer known = depths.get(method);
        if (known != null) {
            return known;
        }
        Set<String> ring = new TreeSet<>(Set.of(method));
        for (String other : reachable(method)) {
            if (reachable(other).contains(method)) {
                ring.add(other);
            }
        }
        int deepest = 0;
        for (String one : ring) {
            for (String next : called.getOrDefault(one, Set.of())) {
                deepest = Math.max(deepest, ring.contains(next) ? 0 : depth(next));
            }
        }
        depths.put(method, deepest + ring.size());
        return deepest + ring.size();
    }
}
