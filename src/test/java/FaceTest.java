import java.lang.reflect.Constructor;
import java.lang.reflect.Field;
import java.lang.reflect.Method;
import java.lang.reflect.Modifier;
import java.util.Set;
import java.util.TreeSet;

/** The public face is that of the document, and no more; the constants have their numbers. */
public final class FaceTest {
    private static final String[] METHODS = {
        "int add(int,int,int,int,int)", "int change(int,int,int,int)", "int remove(int,int)", "int count(int)",
        "int cell(int,int,int)", "int losses()", "int moment()", "int setPace(int,int,int)",
        "int setBounds(int,int,int)", "int setLease(int,int)", "int fail(int,int,boolean)",
        "boolean forbid(int,int,boolean)", "int pass(int)", "int now()", "int seat(int)", "int link(int,int,int,int)",
        "int where(int,int,int,int)", "int out(int,int)", "void shape(int,boolean)", "int clear()", "int ask(int,int)",
        "int answers()", "int answer(int,int)", "int missing()", "int claims()", "int cost()", "int attempts()",
        "int shipped()", "int taken(int)", "int size(int)", "int entries()", "int answersAnew()",
        "int answerAnew(int,int)", "int step(int,int,int,int,int,int)", "int run()"};
    private static final String[] CONSTANTS = {
        "NONE=-1", "NULL=5000", "MISSING=5001", "ROWS=0", "KEYS=1", "DOCUMENTS=2", "SAME=0", "LESS=1", "MORE=2",
        "IS_NULL=3", "IS_MISSING=4", "HOW_CACHED=0", "HOW_BOUND=1", "HOW_SWITCHED=2", "HOW_SCANNED=3", "ADD=0",
        "CHANGE=1", "REMOVE=2"};

    public static void main(String[] args) throws IllegalAccessException {
        Checks.due("public and final", Modifier.PUBLIC | Modifier.FINAL, QueryHarbor.class.getModifiers());
        dueSame("methods", Set.of(METHODS), methods());
        dueSame("constants", Set.of(CONSTANTS), constants());
        for (Constructor<?> constructor : QueryHarbor.class.getDeclaredConstructors()) {
            Checks.due("constructor is public", true, Modifier.isPublic(constructor.getModifiers()));
            Checks.due("constructor without arguments", 0, constructor.getParameterCount());
        }
        for (Class<?> inside : QueryHarbor.class.getDeclaredClasses()) {
            Checks.due("static: " + inside, true, Modifier.isStatic(inside.getModifiers()));
            Checks.due("not public: " + inside, false, Modifier.isPublic(inside.getModifiers()));
        }
        nothingElseInClasses();
        Checks.end("FaceTest");
    }

    private static void dueSame(String what, Set<String> want, Set<String> got) {
        Set<String> more = new TreeSet<>(got);
        more.removeAll(want);
        Set<String> less = new TreeSet<>(want);
        less.removeAll(got);
        Checks.due(what + " too many: " + more, 0, more.size());
        Checks.due(what + " that are not there: " + less, 0, less.size());
    }

    private static Set<String> methods() {
        Set<String> found = new TreeSet<>();
        for (Method method : QueryHarbor.class.getDeclaredMethods()) {
            if (Modifier.isPrivate(method.getModifiers())) {
                continue;
            }
            StringBuilder types = new StringBuilder();
            for (Class<?> type : method.getParameterTypes()) {
                types.append(types.length() == 0 ? "" : ",").append(type.getSimpleName());
            }
            found.add(method.getReturnType().getSimpleName() + " " + method.getName() + "(" + types + ")");
            Checks.due("public: " + method, true, Modifier.isPublic(method.getModifiers()));
        }
        return found;
    }

    private static Set<String> constants() throws IllegalAccessException {
        Set<String> found = new TreeSet<>();
        for (Field field : QueryHarbor.class.getDeclaredFields()) {
            int modifiers = field.getModifiers();
            if (Modifier.isPrivate(modifiers)) {
                Checks.due("final: " + field, true, Modifier.isFinal(modifiers));
                continue;
            }
            Checks.due("public, static, final: " + field, Modifier.PUBLIC | Modifier.STATIC | Modifier.FINAL,
                    modifiers);
            found.add(field.getName() + "=" + field.getInt(null));
        }
        return found;
    }

    /** No method inside bears the name of a public one, no class has too many fields. */
    private static void nothingElseInClasses() {
        Set<String> names = new TreeSet<>();
        for (String method : METHODS) {
            names.add(method.substring(method.indexOf(' ') + 1, method.indexOf('(')));
        }
        Class<?>[] classes = QueryHarbor.class.getDeclaredClasses();
        Checks.due("at most twelve classes", true, classes.length + 1 <= 12);
        for (Class<?> inside : classes) {
            Checks.due("at most twenty fields: " + inside, true, inside.getDeclaredFields().length <= 20);
            for (Method method : inside.getDeclaredMethods()) {
                Checks.due("name of a public one: " + method, false, names.contains(method.getName()));
            }
        }
        for (Method method : QueryHarbor.class.getDeclaredMethods()) {
            if (Modifier.isPrivate(method.getModifiers())) {
                Checks.due("name of a public one: " + method, false, names.contains(method.getName()));
            }
        }
    }
}
