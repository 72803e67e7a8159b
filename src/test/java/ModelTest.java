import java.lang.reflect.InvocationTargetException;
import java.lang.reflect.Method;
import java.util.ArrayList;
import java.util.List;
import java.util.Map;
import java.util.Random;
import java.util.TreeMap;

/** Long runs of drawn calls, each answered by the program and by the model; the seeds are fixed. */
public final class ModelTest {
    private static final int RUNS = 1000;
    private static final int CALLS = 512;
    private static final int NULL = 5000;
    private static final int MISSING = 5001;

    private final Random random;
    private final QueryHarbor harbor = new QueryHarbor();
    private final Model model = new Model();
    private final List<String> told = new ArrayList<>();
    private final Map<String, Integer> seen;
    private final int[] marks = new int[6];
    private final int style;
    private boolean same = true;
    private int momentSeen = -1;

    private ModelTest(long seed, Map<String, Integer> seen) {
        random = new Random(seed);
        style = random.nextInt(4);
        this.seen = seen;
    }

    public static void main(String[] args) throws ReflectiveOperationException {
        int runs = args.length > 1 ? Integer.parseInt(args[1]) : RUNS;
        Map<String, Integer> seen = new TreeMap<>();
        for (int seed = 0; seed < runs; seed++) {
            ModelTest test = new ModelTest(seed, seen);
            Checks.due("run " + seed, true, test.runAlike());
            if (!test.same) {
                test.told.subList(Math.max(0, test.told.size() - 40), test.told.size()).forEach(System.out::println);
                break;
            }
        }
        System.out.println("seen: " + seen);
        dueSeen(seen);
        Checks.end("ModelTest");
    }

    /** The runs are worth something only if they come to what is rare. */
    private static void dueSeen(Map<String, Integer> seen) {
        String[] rare = {"how 0", "how 1", "how 2", "how 3", "open", "switched and open", "claims now",
            "claims earlier", "whole and claims none", "three seats", "taken back", "all steps done", "six entries",
            "late", "grouped", "bound in batches"};
        for (String what : rare) {
            if (seen.getOrDefault(what, 0) < 5) {
                Checks.tell("only " + seen.getOrDefault(what, 0) + " times: " + what);
            }
        }
    }

    private boolean runAlike() throws ReflectiveOperationException {
        for (int i = style > 1 ? 60 : 20; i > 0 && same; i--) {
            addRow(random.nextInt(6));
        }
        while (told.size() < CALLS - 40 && same) {
            int kind = random.nextInt(100);
            if (kind < 3) {
                wrongCall();
            } else if (kind < 22) {
                write();
            } else if (kind < (style > 1 ? 30 : 23)) {
                setStores();
            } else if (kind < 34) {
                call("pass", 1 + random.nextInt(random.nextInt(4) == 0 ? 100 : 12));
            } else if (kind < 44) {
                newDraft();
            } else if (kind < 60) {
                moreDraft();
            } else if (kind < 84) {
                ask();
            } else if (kind < 90) {
                askForSwitch();
            } else {
                bundle();
            }
            same = same && lookAlike();
        }
        return same;
    }

    // ---- what is drawn

    private int cellFor(int source, int column) {
        int kind = random.nextInt(20);
        if (column == 0 && source > 1) {
            return random.nextInt(16);
        }
        if (kind == 0) {
            return -999 + random.nextInt(1999);
        }
        if (kind < 3) {
            return NULL;
        }
        if (kind < 6 && source > 3) {
            return MISSING;
        }
        return random.nextInt(kind < 12 + 6 * (style % 2) ? 4 : 16);
    }

    private void addRow(int source) throws ReflectiveOperationException {
        boolean keys = source == 2 || source == 3;
        Object mark = call("add", source, cellFor(source, 0), cellFor(source, 1), keys ? 0 : cellFor(source, 2),
                keys ? 0 : cellFor(source, 3));
        if (source < 2 && mark instanceof Integer) {
            marks[source] = (Integer) mark;
        }
    }

    private int someMark(int source) {
        return source < 2 ? Math.max(0, marks[source] - random.nextInt(13)) : random.nextInt(16);
    }

    private int someColumn(int source) {
        return random.nextInt(source == 2 || source == 3 ? 2 : 4);
    }

    private void write() throws ReflectiveOperationException {
        int source = random.nextInt(6);
        switch (random.nextInt(5)) {
            case 0:
            case 1:
                addRow(source);
                break;
            case 2:
                call("remove", source, someMark(source));
                break;
            default:
                int column = someColumn(source);
                call("change", source, someMark(source), column, cellFor(source, column));
                break;
        }
    }

    private void setStores() throws ReflectiveOperationException {
        int store = random.nextInt(3);
        switch (random.nextInt(6)) {
            case 0:
                call("setPace", store, random.nextInt(4) == 0 ? random.nextInt(31) : random.nextInt(3),
                        random.nextInt(2) * random.nextInt(61));
                break;
            case 1:
                call("setBounds", store, random.nextInt(3) > 0 ? 20 : 1 + random.nextInt(4),
                        random.nextInt(3) > 0 ? 12 : random.nextInt(13));
                break;
            case 2:
                call("setLease", store, random.nextInt(2) == 0 ? random.nextInt(201) : random.nextInt(20));
                break;
            case 3:
            case 4:
                call("fail", store, random.nextInt(7), random.nextBoolean());
                break;
            default:
                call("forbid", random.nextInt(6), store, random.nextInt(3) == 0);
                break;
        }
    }

    private void newDraft() throws ReflectiveOperationException {
        call("clear");
        int seats = 1 + random.nextInt(3);
        int[] sources = new int[seats];
        for (int i = 0; i < seats; i++) {
            sources[i] = random.nextInt(6);
            call("seat", sources[i]);
        }
        for (int i = 1; i < seats; i++) {
            int other = random.nextInt(i);
            call("link", other, linkColumn(sources[other]), i, linkColumn(sources[i]));
        }
        for (int i = random.nextInt(4) - style % 2; i > 0; i--) {
            condition(random.nextInt(seats), sources);
        }
        for (int i = 1 + random.nextInt(3); i > 0; i--) {
            int seat = random.nextInt(seats);
            call("out", seat, someColumn(sources[seat]));
        }
        if (random.nextInt(3) == 0) {
            call("shape", random.nextInt(2) == 0 ? 40 : 1 + random.nextInt(40), random.nextBoolean());
        }
    }

    private int linkColumn(int source) {
        return random.nextInt(3) > style % 2 ? 0 : someColumn(source);
    }

    private void condition(int seat, int[] sources) throws ReflectiveOperationException {
        int kind = random.nextInt(8) == 0 ? 3 + random.nextInt(2) : random.nextInt(3);
        int column = random.nextInt(2) == 0 ? 0 : someColumn(sources[seat]);
        call("where", seat, column, kind, kind > 2 ? 0 : random.nextInt(16));
    }

    private void moreDraft() throws ReflectiveOperationException {
        int seat = random.nextInt(3);
        int column = random.nextInt(4);
        switch (random.nextInt(5)) {
            case 0:
                call("seat", random.nextInt(6));
                break;
            case 1:
                call("link", seat, column, random.nextInt(3), random.nextInt(4));
                break;
            case 2:
                call("out", seat, column);
                break;
            case 3:
                call("shape", 1 + random.nextInt(40), random.nextBoolean());
                break;
            default:
                call("where", seat, random.nextInt(2) * column, random.nextInt(3), random.nextInt(16));
                break;
        }
    }

    private void ask() throws ReflectiveOperationException {
        int fresh = random.nextInt(3) == 0 ? 0 : random.nextInt(random.nextBoolean() ? 201 : 20);
        int deadline = random.nextInt(3) > 0 ? 200 : random.nextInt(25);
        if (random.nextInt(4) == 0) {
            call("fail", random.nextInt(3), random.nextInt(4), false);
        }
        Object rows = call("ask", fresh, deadline);
        if (!(rows instanceof Integer)) {
            return;
        }
        if (!model.claimIsTrue()) {
            tell("what the answer claims is not true");
        }
        count("open", model.missing() != 0);
        count("late", model.missing() != 0 && model.attempts() == 0);
        count("claims now", model.claims() == model.moment());
        count("claims earlier", model.claims() >= 0 && model.claims() < model.moment());
        count("whole and claims none", model.claims() < 0 && model.missing() == 0);
        count("six entries", model.entries() == 6);
        int seats = 0;
        for (int place = 0; place < 3; place++) {
            try {
                int taken = model.taken(place);
                seats++;
                count("how " + taken % 10, true);
                count("switched and open", taken % 10 == 2 && (model.missing() >> (taken / 10)) % 2 == 1);
                count("bound in batches", taken % 10 == 1 && seats == 2 && model.attempts() > 2);
            } catch (IndexOutOfBoundsException e) {
                break;
            }
        }
        count("three seats", seats == 3);
        count("grouped", model.answers() > 1 && isGrouped());
    }

    /** A join of many keys, with a store that fails, and many rows for the first keys, so that a bind becomes dear. */
    private void askForSwitch() throws ReflectiveOperationException {
        int from = 2 + random.nextInt(4);
        int to = random.nextInt(3) == 0 ? random.nextInt(2) : 4 + random.nextInt(2);
        int column = 1 + random.nextInt(3);
        for (int i = 0; i < 12; i++) {
            addRow(i % 2 == 0 ? from : to);
        }
        for (int mark = 0; mark < 60; mark++) {
            if (model.isThere(to, mark)) {
                call("change", to, mark, column, random.nextInt(6));
            }
        }
        call("clear");
        call("seat", from);
        call("seat", to);
        call("link", 0, 0, 1, column);
        call("out", 1, 0);
        call("out", 0, 0);
        call("pass", 1);
        call("fail", to / 2, random.nextInt(3), true);
        boolean cut = random.nextInt(3) == 0;
        if (cut) {
            call("setBounds", to / 2, 20, 8 + random.nextInt(4));
        }
        ask();
        if (cut) {
            call("setBounds", to / 2, 20, 12);
        }
    }

    private boolean isGrouped() {
        try {
            return model.answer(0, 2) != model.answer(0, 0) && model.answer(0, 1) > 1;
        } catch (IndexOutOfBoundsException e) {
            return false;
        }
    }

    private void bundle() throws ReflectiveOperationException {
        if (random.nextInt(3) == 0) {
            call("fail", random.nextInt(3), 1 + random.nextInt(5), random.nextBoolean());
        }
        for (int i = 1 + random.nextInt(4); i > 0; i--) {
            int source = random.nextInt(6);
            boolean keys = source == 2 || source == 3;
            int column = someColumn(source);
            switch (random.nextInt(3)) {
                case 0:
                    call("step", 0, source, cellFor(source, 0), cellFor(source, 1), keys ? 0 : cellFor(source, 2),
                            keys ? 0 : cellFor(source, 3));
                    break;
                case 1:
                    call("step", 1, source, someMark(source), column, cellFor(source, column), 0);
                    break;
                default:
                    call("step", 2, source, someMark(source), 0, 0, 0);
                    break;
            }
        }
        int moment = model.moment();
        Object ended = call("run");
        if (ended instanceof Integer) {
            count("all steps done", (Integer) ended == -1);
            count("taken back", (Integer) ended >= 0 && model.moment() > moment);
        }
    }

    private static final int[] ODD = {-1000, -999, -2, -1, 0, 1, 2, 3, 4, 5, 6, 11, 12, 13, 20, 21, 30, 31, 40, 41, 60,
        61, 99, 100, 101, 200, 201, 999, 1000, NULL, MISSING, Integer.MAX_VALUE, Integer.MIN_VALUE};

    /** A call of any method with numbers at and beyond the edges. */
    private void wrongCall() throws ReflectiveOperationException {
        List<Method> methods = new ArrayList<>();
        for (Method method : Model.class.getMethods()) {
            if (method.getDeclaringClass() == Model.class) {
                methods.add(method);
            }
        }
        methods.sort((a, b) -> a.getName().compareTo(b.getName()));
        Method method = methods.get(random.nextInt(methods.size()));
        Object[] arguments = new Object[method.getParameterCount()];
        for (int i = 0; i < arguments.length; i++) {
            boolean truth = method.getParameterTypes()[i] == boolean.class;
            if (truth) {
                arguments[i] = random.nextBoolean();
            } else {
                arguments[i] = random.nextInt(3) > 0 ? random.nextInt(4) : ODD[random.nextInt(ODD.length)];
            }
        }
        call(method.getName(), arguments);
    }

    // ---- both are called, and compared

    private Object call(String name, Object... arguments) throws ReflectiveOperationException {
        Object got = answer(harbor, name, arguments);
        Object want = answer(model, name, arguments);
        StringBuilder text = new StringBuilder(name);
        for (Object argument : arguments) {
            text.append(' ').append(argument);
        }
        told.add(text + " => " + want);
        if (got == null ? want != null : !got.equals(want)) {
            tell(text + " answered " + got + ", due is " + want);
        }
        return want;
    }

    private void tell(String what) {
        same = false;
        told.add(what);
    }

    private void count(String what, boolean is) {
        if (is) {
            seen.merge(what, 1, Integer::sum);
        }
    }

    private static Object answer(Object of, String name, Object... arguments) throws ReflectiveOperationException {
        Class<?>[] types = new Class<?>[arguments.length];
        for (int i = 0; i < types.length; i++) {
            types[i] = arguments[i] instanceof Boolean ? boolean.class : int.class;
        }
        try {
            return of.getClass().getMethod(name, types).invoke(of, arguments);
        } catch (InvocationTargetException e) {
            return e.getCause().getClass().getName();
        }
    }

    /** Compares all that can be looked at. */
    private boolean lookAlike() {
        for (int source = 0; source < 6; source++) {
            look("count", harbor.count(source), model.count(source));
            look("size", harbor.size(source), model.size(source));
            if (model.moment() != momentSeen) {
                lookAtCells(source);
            }
        }
        momentSeen = model.moment();
        look("losses", harbor.losses(), model.losses());
        look("moment", harbor.moment(), model.moment());
        look("now", harbor.now(), model.now());
        look("answers", harbor.answers(), model.answers());
        look("missing", harbor.missing(), model.missing());
        look("claims", harbor.claims(), model.claims());
        look("cost", harbor.cost(), model.cost());
        look("attempts", harbor.attempts(), model.attempts());
        look("shipped", harbor.shipped(), model.shipped());
        look("entries", harbor.entries(), model.entries());
        for (int i = 0; i < 4; i++) {
            int place = i;
            look("taken " + i, orPlace(() -> harbor.taken(place)), orPlace(() -> model.taken(place)));
        }
        int columns = model.columnsOfAnswer();
        for (int row = 0; row < model.answers(); row++) {
            for (int column = 0; column < columns; column++) {
                look("answer " + row + " " + column, harbor.answer(row, column), model.answer(row, column));
            }
        }
        int row = random.nextInt(4);
        int column = random.nextInt(4);
        look("some answer", orPlace(() -> harbor.answer(row, column)), orPlace(() -> model.answer(row, column)));
        look("answersAnew", orPlace(harbor::answersAnew), orPlace(model::answersAnew));
        for (int i = 0; i < 4; i++) {
            int r = random.nextInt(random.nextBoolean() ? 41 : 4);
            int c = random.nextInt(random.nextInt(9) == 0 ? 4 : 2);
            look("answerAnew", orPlace(() -> harbor.answerAnew(r, c)), orPlace(() -> model.answerAnew(r, c)));
        }
        return same;
    }

    private void lookAtCells(int source) {
        int there = 0;
        for (int mark = 0; mark < 100; mark++) {
            if (model.isThere(source, mark)) {
                there++;
                lookAtRow(source, mark);
            }
        }
        look("rows of " + source, harbor.count(source), there);
        int mark = random.nextInt(100);
        look("some row of " + source, orPlace(() -> harbor.cell(source, mark, 1)),
                orPlace(() -> model.cell(source, mark, 1)));
    }

    private void lookAtRow(int source, int m) {
        for (int c = 0; c < (source == 2 || source == 3 ? 2 : 4); c++) {
            look("cell " + source + " " + m + " " + c, harbor.cell(source, m, c), model.cell(source, m, c));
        }
    }

    private void look(String what, long got, long want) {
        if (got != want) {
            tell(what + " answered " + got + ", due is " + want);
        }
    }

    private static long orPlace(Checks.Call call) {
        try {
            return call.answer();
        } catch (RuntimeException e) {
            return Checks.refusal(e);
        }
    }
}
