import java.io.PrintWriter;
import java.io.StringWriter;
import java.util.ArrayList;
import java.util.HashMap;
import java.util.List;
import java.util.Map;
import java.util.Optional;
import java.util.regex.Matcher;
import java.util.regex.Pattern;
import java.util.spi.ToolProvider;

/**
 * Rules 8 and 11 of ../shared/LANGUAGE.md, seen in the compiled program: no method calls itself, by others neither, and
 * calls go at most eight deep.
 */
public final class DepthTest {
    private static final int MOST = 8;
    private static final Pattern HEAD = Pattern.compile("^  \\S.*?([\\w$.]+)\\(.*;$");
    private static final Pattern DESCRIPTOR = Pattern.compile("^    descriptor: (\\(.*)$");
    private static final Pattern CALL = Pattern.compile(": invoke\\w+ .*// (?:Interface)?Method (?:([\\w$/]+)\\.)?"
            + "\"?([\\w<>]+)\"?:(\\(\\S*)");

    /** The methods of the program, each with those that it calls. */
    private final Map<String, List<String>> calls = new HashMap<>();
    private final Map<String, Integer> depths = new HashMap<>();

    public static void main(String[] args) {
        Optional<ToolProvider> javap = ToolProvider.findFirst("javap");
        if (javap.isEmpty()) {
            System.out.println("DepthTest: not looked at, as this Java has no javap");
            return;
        }
        DepthTest test = new DepthTest();
        test.readAll(javap.get());
        Checks.due("methods were found", true, test.calls.size() > 100);
        for (String method : test.calls.keySet()) {
            Checks.due("calls go too deep: " + method, true, test.depthOf(method) <= MOST);
        }
        Checks.due("ask goes deeper than one call", true, test.depthOf("QueryHarbor.ask(II)I") > 4);
        Checks.end("DepthTest");
    }

    private void readAll(ToolProvider javap) {
        readClass(javap, "QueryHarbor");
        for (Class<?> inside : QueryHarbor.class.getDeclaredClasses()) {
            readClass(javap, inside.getName());
        }
    }

    private void readClass(ToolProvider javap, String name) {
        StringWriter text = new StringWriter();
        PrintWriter out = new PrintWriter(text);
        int exit = javap.run(out, out, "-c", "-s", "-p", "-cp", System.getProperty("java.class.path"), name);
        Checks.due("javap of " + name, 0, exit);
        String head = "";
        List<String> called = new ArrayList<>();
        for (String line : text.toString().split("\n")) {
            Matcher headFound = HEAD.matcher(line);
            Matcher descriptor = DESCRIPTOR.matcher(line);
            Matcher call = CALL.matcher(line);
            if (headFound.matches()) {
                head = headFound.group(1).equals(name) ? "<init>" : headFound.group(1);
            } else if (descriptor.matches() && !head.isEmpty()) {
                called = new ArrayList<>();
                calls.put(name + "." + head + descriptor.group(1), called);
                head = "";
            } else if (call.find()) {
                String of = call.group(1) == null ? name : call.group(1).replace('/', '.');
                called.add(of + "." + call.group(2) + call.group(3));
            }
        }
    }

    /** How deep the calls of a method go, itself counted; those of the Java library are not. */
    private int depthOf(String method) {
        Integer known = depths.get(method);
        if (known != null) {
            return known;
        }
        depths.put(method, 1000);
        int deepest = 0;
        for (String called : calls.getOrDefault(method, List.of())) {
            if (calls.containsKey(called)) {
                deepest = Math.max(deepest, depthOf(called));
            }
        }
        depths.put(method, deepest + 1);
        return deepest + 1;
    }
}
