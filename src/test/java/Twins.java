import java.util.ArrayList;
import java.util.List;

/**
 * Two objects with the same calls behind them: one of them gets a call that is refused, and then both have to answer
 * alike, as a call that throws an exception changes nothing.
 */
final class Twins {
    interface Setup {
        void on(QueryHarbor x);
    }

    interface Call {
        long on(QueryHarbor x);
    }

    /** The rows that the busy object has: a source, and a mark. */
    private static final int[][] BUSY_ROWS = {{0, 0}, {0, 2}, {1, 0}, {2, 5}, {2, 7}, {3, 1}, {4, 6}};
    private static final int NULL = QueryHarbor.NULL;

    private Twins() {
    }

    static void dueRefused(String what, Class<?> wrong, Setup setup, Call call) {
        QueryHarbor refusing = new QueryHarbor();
        setup.on(refusing);
        Checks.dueThrow(what, wrong, () -> call.on(refusing));
        QueryHarbor other = new QueryHarbor();
        setup.on(other);
        Checks.due(what + ": nothing changes", true, probe(refusing).equals(probe(other)));
    }

    /** An object with something in all that it holds: rows, losses, a draft, an answer, a message, a step. */
    static void busy(QueryHarbor x) {
        x.setPace(0, 2, 3);
        x.setPace(1, 1, 4);
        x.setPace(2, 3, 2);
        x.setBounds(0, 5, 2);
        x.setBounds(1, 6, 2);
        x.setBounds(2, 7, 2);
        x.setLease(0, 50);
        x.setLease(1, 40);
        x.setLease(2, 30);
        x.forbid(0, 2, true);
        x.forbid(4, 1, true);
        x.add(0, 6, 2, 3, 4);
        x.add(0, 7, 2, 3, 4);
        x.remove(0, 1);
        x.add(0, 8, NULL, 3, 4);
        x.add(1, 1, 2, 3, 4);
        x.add(2, 5, 50, 0, 0);
        x.add(2, 7, NULL, 0, 0);
        x.add(3, 1, 150, 0, 0);
        x.add(4, 6, 1, QueryHarbor.MISSING, NULL);
        busyQuery(x);
        x.change(0, 0, 1, 9);
        x.fail(0, 1, false);
        x.fail(1, 3, true);
        x.step(QueryHarbor.ADD, 2, 9, 90, 0, 0);
    }

    private static void busyQuery(QueryHarbor x) {
        x.seat(0);
        x.seat(4);
        x.link(0, 0, 1, 0);
        x.where(0, 2, QueryHarbor.MORE, 0);
        x.out(0, 0);
        x.out(1, 1);
        x.shape(30, false);
        x.ask(0, 200);
    }

    /** What an object answers, first without a change, then with calls that show what it holds. */
    private static List<Long> probe(QueryHarbor x) {
        List<Long> told = new ArrayList<>();
        look(x, told);
        passing(x, told);
        put(told, () -> x.ask(200, 200));
        look(x, told);
        put(told, () -> x.add(0, 3, 3, 3, 3));
        put(told, () -> x.add(2, 3, 3, 0, 0));
        put(told, () -> x.add(4, 3, 3, 3, 3));
        passing(x, told);
        put(told, () -> x.ask(0, 200));
        put(told, () -> x.run());
        look(x, told);
        draftsLeft(x, told);
        asked(x, told, 2, 5);
        asked(x, told, 4, 6);
        settings(x, told);
        return told;
    }

    private static void put(List<Long> told, Call call, QueryHarbor x) {
        put(told, () -> call.on(x));
    }

    private static void put(List<Long> told, Checks.Call call) {
        try {
            told.add(call.answer());
        } catch (RuntimeException e) {
            told.add(Checks.refusal(e));
        }
    }

    private static void look(QueryHarbor x, List<Long> told) {
        Call[] looks = {QueryHarbor::now, QueryHarbor::moment, QueryHarbor::losses, QueryHarbor::entries,
            QueryHarbor::answers, QueryHarbor::missing, QueryHarbor::claims, QueryHarbor::cost, QueryHarbor::attempts,
            QueryHarbor::shipped, QueryHarbor::answersAnew, y -> y.taken(0), y -> y.taken(1), y -> y.answer(0, 0),
            y -> y.answer(0, 1), y -> y.answer(1, 0), y -> y.answerAnew(0, 0), y -> y.answerAnew(0, 1)};
        for (Call look : looks) {
            put(told, look, x);
        }
        for (int i = 0; i < 6; i++) {
            int source = i;
            put(told, () -> x.count(source));
            put(told, () -> x.size(source));
        }
        for (int[] row : BUSY_ROWS) {
            for (int i = 0; i < 4; i++) {
                int column = i;
                put(told, () -> x.cell(row[0], row[1], column));
            }
        }
    }

    private static void passing(QueryHarbor x, List<Long> told) {
        for (int i = 0; i < 5; i++) {
            put(told, () -> x.pass(1));
            put(told, () -> x.entries());
        }
    }

    /** How many seats, links, conditions, outputs and steps there are. */
    private static void draftsLeft(QueryHarbor x, List<Long> told) {
        put(told, () -> x.link(0, 0, 1, 0));
        put(told, () -> x.where(0, 0, 0, 0));
        put(told, () -> x.out(0, 0));
        put(told, () -> x.step(0, 4, 50, 1, 1, 1));
        put(told, () -> x.clear());
    }

    /** How a store answers, and when its messages come. */
    private static void asked(QueryHarbor x, List<Long> told, int source, int mark) {
        Setups.draft(x, source);
        put(told, () -> x.ask(0, 200));
        put(told, () -> x.missing());
        put(told, () -> x.attempts());
        put(told, () -> x.now());
        put(told, () -> x.change(source, mark, 1, 4));
        passing(x, told);
    }

    /** What is set for the stores. */
    private static void settings(QueryHarbor x, List<Long> told) {
        for (int i = 0; i < 3; i++) {
            int store = i;
            put(told, () -> x.setPace(store, 1, 0));
            put(told, () -> x.setBounds(store, 20, 12));
            put(told, () -> x.setLease(store, 60));
            put(told, () -> x.fail(store, 0, false));
            for (int source = 0; source < 6; source++) {
                told.add(x.forbid(source, store, false) ? 1L : 0L);
            }
        }
    }
}
