import java.io.PrintWriter;
import java.io.StringWriter;
import java.util.ArrayList;
import java.util.HashMap;
import java.util.HashSet;
import java.util.List;
import java.util.Map;
import java.util.Set;
import java.util.TreeMap;
import java.util.TreeSet;
import java.util.regex.Matcher;
import java.util.regex.Pattern;
import java.util.spi.ToolProvider;

/**
 * What the compiler made of the class: nothing is thrown, cast or made by a call, of the library just what is meant to
 * be there, and calls that go no deeper than LANGUAGE.md lets them.
 */
public final class BytecodeTest {
    private static final int DEEPEST = 8;
    private static final Set<String> LIBRARY = Set.of(
        "java/lang/Object.<init>", "java/lang/String.length", "java/lang/String.charAt", "java/lang/Math.min",
        "java/lang/Math.max", "java/lang/Math.floorDiv", "java/lang/Integer.bitCount", "java/lang/System.arraycopy");
    private static final Set<String> UNWANTED = Set.of(
        "athrow", "monitorenter", "monitorexit", "checkcast", "instanceof", "invokedynamic", "invokeinterface", "putstatic");
    private static final Set<String> MAKING = Set.of("new", "newarray", "anewarray", "multianewarray");

    private static final Pattern CLASS = Pattern.compile("^(?:[a-z]+ )*class (\\S+) \\{$");
    private static final Pattern METHOD = Pattern.compile("^  (?:[\\w\\[\\]$.]+ )*([\\w$]+)\\(.*\\);$");
    private static final Pattern STEP = Pattern.compile("^ +\\d+: (\\w+)\\b(?:.*// (?:Interface)?Method (\\S+?):.*)?.*$");

    private final Check check = new Check("BytecodeTest");
    private final Map<String, Set<String>> calls = new TreeMap<>();
    private final Map<String, Set<String>> reached = new HashMap<>();
    private final Map<String, Integer> depths = new HashMap<>();

    public static void main(String[] args) {
        BytecodeTest all = new BytecodeTest();
        all.read(all.disassembled());
        all.recursion();
        all.depth();
        all.check.close();
    }

    private String disassembled() {
        List<String> names = new ArrayList<>(List.of("-p", "-c", "-cp", System.getProperty("java.class.path"), "TileHeel"));
        for (Class<?> one : TileHeel.class.getDeclaredClasses()) {
            names.add(one.getName());
        }
        ToolProvider javap = ToolProvider.findFirst("javap").orElse(null);
        check.due("javap is there", javap != null, true);
        StringWriter text = new StringWriter();
        PrintWriter out = new PrintWriter(text);
        check.due("javap ends well", javap == null ? 1 : javap.run(out, out, names.toArray(new String[0])), 0);
        out.flush();
        return text.toString();
    }

    private void read(String text) {
        String type = "";
        String method = "";
        for (String line : text.split("\\R")) {
            Matcher head = CLASS.matcher(line);
            Matcher start = METHOD.matcher(line);
            Matcher step = STEP.matcher(line);
            if (head.matches()) {
                type = head.group(1);
            } else if (start.matches()) {
                method = type + "." + (start.group(1).equals(type) ? "<init>" : start.group(1));
                calls.putIfAbsent(method, new TreeSet<>());
            } else if (step.matches() && !method.isEmpty()) {
                readStep(type, method, step.group(1), step.group(2));
            }
            check.due("an exception table: " + line, line.contains("Exception table"), false);
        }
        check.due("methods that were read", calls.size() > 100, true);
    }

    private void readStep(String type, String method, String what, String called) {
        check.due(method + " has " + what, UNWANTED.contains(what), false);
        check.due(method + " makes something", MAKING.contains(what) && !method.endsWith(".<init>"), false);
        if (called == null) {
            return;
        }
        String whole = called.replace("\"", "");
        whole = whole.contains(".") ? whole : type + "." + whole;
        if (whole.startsWith("TileHeel")) {
            calls.get(method).add(whole);
        } else {
            check.due(method + " calls the library's " + whole, LIBRARY.contains(whole), true);
        }
    }

    // ---- calls

    private Set<String> reachedFrom(String method) {
        Set<String> all = reached.get(method);
        if (all == null) {
            all = new HashSet<>();
            List<String> ahead = new ArrayList<>(calls.getOrDefault(method, Set.of()));
            for (int k = 0; k < ahead.size(); k++) {
                if (all.add(ahead.get(k))) {
                    ahead.addAll(calls.getOrDefault(ahead.get(k), Set.of()));
                }
            }
            reached.put(method, all);
        }
        return all;
    }

    /** TESTS and SUMS alone may come back to themselves: the document bounds what is open in them. */
    private void recursion() {
        Set<String> found = new TreeSet<>();
        for (String method : calls.keySet()) {
            if (reachedFrom(method).contains(method)) {
                found.add(method.replace("TileHeel$TownText.", ""));
            }
        }
        Set<String> due = new TreeSet<>(Set.of("test", "both", "fact", "sum", "product", "part", "pair"));
        check.due("what calls itself: " + found, found.equals(due), true);
    }

    private boolean together(String one, String other) {
        return reachedFrom(one).contains(other) && reachedFrom(other).contains(one);
    }

    /** How many calls stand open below one, those that call one another counted once. */
    private int depthOf(String method) {
        Integer known = depths.get(method);
        if (known != null) {
            return known;
        }
        int deepest = 0;
        Set<String> group = new HashSet<>(Set.of(method));
        for (String other : reachedFrom(method)) {
            if (together(method, other)) {
                group.add(other);
            }
        }
        for (String member : group) {
            for (String called : calls.getOrDefault(member, Set.of())) {
                deepest = Math.max(deepest, group.contains(called) ? 0 : depthOf(called));
            }
        }
        depths.put(method, deepest + 1);
        return deepest + 1;
    }

    private void depth() {
        for (String method : calls.keySet()) {
            check.due(method + " goes " + depthOf(method) + " deep", depthOf(method) <= DEEPEST, true);
        }
    }
}
