import com.sun.source.tree.MethodInvocationTree;
import com.sun.source.tree.MethodTree;
import com.sun.source.tree.NewClassTree;
import com.sun.source.util.TreePathScanner;
import java.io.IOException;
import java.util.ArrayList;
import java.util.HashMap;
import java.util.List;
import java.util.Map;
import javax.lang.model.element.Element;

/**
 * Rules 8 and 11 of ../shared/LANGUAGE.md: no method calls itself, by others neither, and calls go at most eight deep.
 * The path of the program is the argument.
 */
public final class DepthTest extends TreePathScanner<Void, List<String>> {
    private static final int MOST = 8;

    private final Source source;
    /** The methods of the program, each with those that it calls, also those of the library. */
    private final Map<String, List<String>> calls = new HashMap<>();
    private final Map<String, Integer> depths = new HashMap<>();

    private DepthTest(Source source) {
        this.source = source;
    }

    public static void main(String[] args) throws IOException {
        Source source = new Source(args.length > 0 ? args[0] : Source.PATH);
        DepthTest test = new DepthTest(source);
        test.scan(source.unit, new ArrayList<>());
        Checks.holds("methods were found", test.calls.size() > 100);
        for (String method : test.calls.keySet()) {
            Checks.holds("at most eight deep: " + method, test.depthOf(method) <= MOST);
        }
        Checks.holds("ask goes deeper than one call", test.depthOf("QueryHarbor.ask(int,int)") > 4);
        Checks.holds("run goes deeper than one call", test.depthOf("QueryHarbor.run()") > 4);
        Checks.end("DepthTest");
    }

    @Override
    public Void visitMethod(MethodTree method, List<String> outer) {
        List<String> called = new ArrayList<>();
        calls.put(nameHere(), called);
        return super.visitMethod(method, called);
    }

    @Override
    public Void visitMethodInvocation(MethodInvocationTree call, List<String> called) {
        called.add(nameHere());
        return super.visitMethodInvocation(call, called);
    }

    @Override
    public Void visitNewClass(NewClassTree made, List<String> called) {
        called.add(nameHere());
        return super.visitNewClass(made, called);
    }

    private String nameHere() {
        Element element = source.trees.getElement(getCurrentPath());
        return element.getEnclosingElement() + "." + element;
    }

    /** How deep the calls of a method go, itself counted; those of the Java library are not. */
    private int depthOf(String method) {
        Integer known = depths.get(method);
        if (known != null) {
            return known;
        }
        depths.put(method, 1000);
        int deepest = 0;
        for (String called : calls.getOrDefault(method, List.of())) {
            if (calls.containsKey(called)) {
                deepest = Math.max(deepest, depthOf(called));
            }
        }
        depths.put(method, deepest + 1);
        return deepest + 1;
    }
}
