/**
 * The edges of each call, promise by promise: the least and the greatest that it takes, what is one less and one more,
 * numbers where sums would wrap around, what is empty, and what is full; and that a refused call changes nothing.
 */
public final class EdgesOfCallsTest {
    private static final int NULL = QueryHarbor.NULL;
    private static final int MISSING = QueryHarbor.MISSING;
    private static final Class<?> PLACE = IndexOutOfBoundsException.class;
    private static final Class<?> ARGUMENT = IllegalArgumentException.class;
    private static final Class<?> STATE = IllegalStateException.class;
    private static final int[] ODD = {Integer.MIN_VALUE, Integer.MIN_VALUE + 1, -1073741824, -65536, -5000, -1000, -1,
        1000, 4999, NULL, MISSING, 5002, 65536, 1073741824, 1431655766, Integer.MAX_VALUE - 1, Integer.MAX_VALUE};

    /** A call with a number that is tried out. */
    private interface Tried {
        long on(QueryHarbor x, int number);
    }

    public static void main(String[] args) {
        promise2Add();
        promise2AddToWhatIsFull();
        promise3Change();
        promise4Remove();
        promise5Count();
        promise6Cell();
        promise9SetPace();
        promise10SetBounds();
        promise11SetLease();
        promise12Fail();
        promise13Forbid();
        promise14Pass();
        promise16Seat();
        promise17Link();
        promise18Where();
        promise19Out();
        promise20Shape();
        promise22Ask();
        promise24Answer();
        promise30Taken();
        promise31Size();
        promise33AnswersAnew();
        promise34AnswerAnew();
        promise35Step();
        promise36Run();
        Checks.end("EdgesOfCallsTest");
    }

    // ---- how numbers are tried out

    /** The numbers from the least to the most one are taken, and these more; all others are refused so. */
    private static void dueRange(String what, Class<?> wrong, int least, int most, Tried call, int... more) {
        for (int number = least - 2; number <= most + 2; number++) {
            dueTried(what, wrong, number >= least && number <= most || isOneOf(number, more), call, number);
        }
        for (int number : ODD) {
            if (number < least - 2 || number > most + 2) {
                dueTried(what, wrong, isOneOf(number, more), call, number);
            }
        }
    }

    /** These numbers are all refused so, and so are all odd ones. */
    private static void dueNone(String what, Class<?> wrong, Tried call, int... numbers) {
        for (int number : numbers) {
            dueTried(what, wrong, false, call, number);
        }
        for (int number : ODD) {
            dueTried(what, wrong, false, call, number);
        }
    }

    private static boolean isOneOf(int number, int[] numbers) {
        for (int other : numbers) {
            if (other == number) {
                return true;
            }
        }
        return false;
    }

    private static void dueTried(String what, Class<?> wrong, boolean taken, Tried call, int number) {
        if (taken) {
            QueryHarbor x = new QueryHarbor();
            Twins.busy(x);
            dueTaken(what + " " + number, () -> call.on(x, number));
        } else {
            dueRefused(what + " " + number, wrong, x -> call.on(x, number));
        }
    }

    private static void dueTaken(String what, Checks.Call call) {
        long refusal = 0;
        try {
            call.answer();
        } catch (RuntimeException e) {
            refusal = Checks.refusal(e);
        }
        Checks.due(what + " is taken", 0, refusal);
    }

    private static void dueRefused(String what, Class<?> wrong, Twins.Call call) {
        Twins.dueRefused(what, wrong, Twins::busy, call);
    }

    // ---- sources

    private static void promise2Add() {
        dueRange("source of add", PLACE, 0, 5, (x, n) -> x.add(n, 33, 1, 0, 0));
        for (int table = 0; table < 2; table++) {
            int t = table;
            dueRange("a in a table", ARGUMENT, -999, 999, (x, n) -> x.add(t, n, 1, 1, 1), NULL);
            dueRange("b in a table", ARGUMENT, -999, 999, (x, n) -> x.add(t, 1, n, 1, 1), NULL);
            dueRange("c in a table", ARGUMENT, -999, 999, (x, n) -> x.add(t, 1, 1, n, 1), NULL);
            dueRange("d in a table", ARGUMENT, -999, 999, (x, n) -> x.add(t, 1, 1, 1, n), NULL);
            dueRange("value", ARGUMENT, -999, 999, (x, n) -> x.add(2 + t, 33, n, 0, 0), NULL);
            dueRange("c in KEYS", ARGUMENT, 0, 0, (x, n) -> x.add(2 + t, 33, 1, n, 0));
            dueRange("d in KEYS", ARGUMENT, 0, 0, (x, n) -> x.add(2 + t, 33, 1, 0, n));
            dueRange("b as a field", ARGUMENT, -999, 999, (x, n) -> x.add(4 + t, 33, n, 1, 1), NULL, MISSING);
            dueRange("c as a field", ARGUMENT, -999, 999, (x, n) -> x.add(4 + t, 33, 1, n, 1), NULL, MISSING);
            dueRange("d as a field", ARGUMENT, -999, 999, (x, n) -> x.add(4 + t, 33, 1, 1, n), NULL, MISSING);
        }
        dueRange("key", ARGUMENT, 0, 99, (x, n) -> n == 5 || n == 7 ? 0 : x.add(2, n, 1, 0, 0));
        dueRange("id", ARGUMENT, 0, 99, (x, n) -> n == 6 ? 0 : x.add(4, n, 1, 0, 0));
        dueRefused("the key is there", STATE, x -> x.add(2, 5, 500, 0, 0));
        dueRefused("the id is there", STATE, x -> x.add(4, 6, 1, 1, 1));
        dueRefused("the key is there, the value wrong", ARGUMENT, x -> x.add(2, 5, 1000, 0, 0));
        dueRefused("the key is there, c wrong", ARGUMENT, x -> x.add(2, 5, 5, 1, 0));
        dueRefused("no source, a wrong cell", PLACE, x -> x.add(6, 5000, 5001, 5002, 5003));
    }

    private static void promise2AddToWhatIsFull() {
        for (int i = 0; i < 6; i++) {
            int source = i;
            Twins.Setup full = x -> Setups.addRows(x, source, 12);
            Twins.dueRefused("the thirteenth row", STATE, full, x -> x.add(source, 33, 1, 0, 0));
            Twins.dueRefused("the thirteenth row, a wrong cell", ARGUMENT, full, x -> x.add(source, 1000, 1, 0, 0));
            QueryHarbor x = Setups.withRows(source, 11);
            Checks.due("the twelfth row", source < 2 ? 11 : 33, x.add(source, 33, 1, 0, 0));
            Checks.due("twelve rows", 12, x.count(source));
        }
        Twins.Setup sixty = x -> {
            for (int i = 0; i < 60; i++) {
                x.add(1, 1, 1, 1, 1);
                x.remove(1, i);
            }
        };
        Twins.dueRefused("the sixty-first row", STATE, sixty, x -> x.add(1, 1, 1, 1, 1));
        Twins.dueRefused("the sixty-first row, a wrong cell", ARGUMENT, sixty, x -> x.add(1, 1, 1, 1, MISSING));
    }

    private static void promise3Change() {
        dueRefused("no source below", PLACE, x -> x.change(-1, 0, 1, 1));
        dueRefused("no source above", PLACE, x -> x.change(6, 0, 1, 1));
        dueRange("mark in a table", PLACE, 0, 0, (x, n) -> x.change(0, n, 1, 1), 2);
        dueRange("key", PLACE, 5, 5, (x, n) -> x.change(2, n, 1, 1), 7);
        dueRange("id", PLACE, 6, 6, (x, n) -> x.change(4, n, 1, 1));
        dueRange("column of a table", PLACE, 0, 3, (x, n) -> x.change(0, 0, n, 1));
        dueNone("column of KEYS", PLACE, (x, n) -> x.change(2, 5, n, 1), 2, 3, 4);
        dueNone("column of DOCUMENTS", PLACE, (x, n) -> x.change(4, 6, n, 1), 4, 5);
        for (int cell : new int[] {5, 6, 0, 99, -1, 100, NULL, MISSING, 1000}) {
            dueRefused("the key to " + cell, ARGUMENT, x -> x.change(2, 5, 0, cell));
            dueRefused("the id to " + cell, ARGUMENT, x -> x.change(4, 6, 0, cell));
        }
        for (int column = 0; column < 4; column++) {
            int c = column;
            dueRange("cell of a table", ARGUMENT, -999, 999, (x, n) -> x.change(0, 2, c, n), NULL);
            if (c > 0) {
                dueRange("field", ARGUMENT, -999, 999, (x, n) -> x.change(4, 6, c, n), NULL, MISSING);
            }
        }
        dueRange("value", ARGUMENT, -999, 999, (x, n) -> x.change(2, 7, 1, n), NULL);
        dueRefused("no row, and a wrong cell", PLACE, x -> x.change(0, 1, 0, 1000));
        dueRefused("no row, and the key", PLACE, x -> x.change(2, 6, 0, 1));
        dueRefused("no column, and a wrong cell", PLACE, x -> x.change(2, 5, 2, 1000));
    }

    private static void promise4Remove() {
        dueRange("source of remove", PLACE, 0, 1, (x, n) -> x.remove(n, 0));
        dueRange("mark in a table", PLACE, 0, 0, (x, n) -> x.remove(0, n), 2);
        dueRange("key", PLACE, 5, 5, (x, n) -> x.remove(2, n), 7);
        dueRange("id", PLACE, 6, 6, (x, n) -> x.remove(4, n));
        dueNone("mark where nothing is", PLACE, (x, n) -> x.remove(5, n), 0, 5, 6, 99);
        for (int source = 0; source < 6; source++) {
            QueryHarbor x = Setups.withRows(source, 12);
            for (int i = 0; i < 12; i++) {
                Checks.due("rows left", 11 - i, x.remove(source, (i * 5) % 12));
            }
            Checks.due("none", 0, x.count(source));
        }
    }

    private static void promise5Count() {
        dueRange("source of count", PLACE, 0, 5, (x, n) -> x.count(n));
        for (int source = 0; source < 6; source++) {
            Checks.due("full", 12, Setups.withRows(source, 12).count(source));
            Checks.due("empty", 0, Setups.withRows((source + 1) % 6, 12).count(source));
        }
    }

    private static void promise6Cell() {
        dueRefused("no source below", PLACE, x -> x.cell(-1, 0, 0));
        dueRefused("no source above", PLACE, x -> x.cell(6, 0, 0));
        dueRange("mark in a table", PLACE, 0, 0, (x, n) -> x.cell(0, n, 0), 2);
        dueRange("key", PLACE, 5, 5, (x, n) -> x.cell(2, n, 0), 7);
        dueRange("id", PLACE, 6, 6, (x, n) -> x.cell(4, n, 0));
        dueRange("column of a table", PLACE, 0, 3, (x, n) -> x.cell(0, 0, n));
        dueRange("column of KEYS", PLACE, 0, 1, (x, n) -> x.cell(2, 5, n));
        dueRange("column of DOCUMENTS", PLACE, 0, 3, (x, n) -> x.cell(4, 6, n));
    }

    // ---- stores and the time

    private static void promise9SetPace() {
        dueRange("store of setPace", PLACE, 0, 2, (x, n) -> x.setPace(n, 1, 0));
        for (int store = 0; store < 3; store++) {
            int s = store;
            dueRange("delay", ARGUMENT, 0, 30, (x, n) -> x.setPace(s, n, 0));
            dueRange("lag", ARGUMENT, 0, 60, (x, n) -> x.setPace(s, 1, n));
        }
        dueRefused("all wrong", PLACE, x -> x.setPace(3, 31, 61));
    }

    private static void promise10SetBounds() {
        dueRange("store of setBounds", PLACE, 0, 2, (x, n) -> x.setBounds(n, 1, 0));
        for (int store = 0; store < 3; store++) {
            int s = store;
            dueRange("quota", ARGUMENT, 1, 20, (x, n) -> x.setBounds(s, n, 0));
            dueRange("cap", ARGUMENT, 0, 12, (x, n) -> x.setBounds(s, 1, n));
        }
        dueRefused("all wrong", PLACE, x -> x.setBounds(-1, 0, 13));
    }

    private static void promise11SetLease() {
        dueRange("store of setLease", PLACE, 0, 2, (x, n) -> x.setLease(n, 60));
        dueRange("lease", ARGUMENT, 0, 200, (x, n) -> x.setLease(2, n));
        dueRefused("all wrong", PLACE, x -> x.setLease(3, -1));
    }

    private static void promise12Fail() {
        dueRange("store of fail", PLACE, 0, 2, (x, n) -> x.fail(n, 1, true));
        dueRange("attempts", ARGUMENT, 0, 20, (x, n) -> x.fail(1, n, false));
        dueRefused("all wrong", PLACE, x -> x.fail(3, 21, false));
    }

    private static void promise13Forbid() {
        dueRange("source of forbid", PLACE, 0, 5, (x, n) -> x.forbid(n, 0, true) ? 1 : 0);
        dueRange("store of forbid", PLACE, 0, 2, (x, n) -> x.forbid(5, n, true) ? 1 : 0);
        dueRefused("both wrong", PLACE, x -> x.forbid(-1, 3, true) ? 1 : 0);
    }

    private static void promise14Pass() {
        dueRange("ticks", ARGUMENT, 1, 100, QueryHarbor::pass);
    }

    // ---- the draft of a query

    private static void promise16Seat() {
        dueRange("source of seat", PLACE, 0, 5, QueryHarbor::seat);
        Twins.Setup three = x -> Setups.draft(x, 0, 2, 4);
        Twins.dueRefused("a fourth seat", STATE, three, x -> x.seat(0));
        Twins.dueRefused("a fourth seat, no source", PLACE, three, x -> x.seat(6));
    }

    private static void promise17Link() {
        dueRange("column of link", PLACE, 0, 3, (x, n) -> x.link(0, n, 1, 0));
        dueRange("other column of link", PLACE, 0, 3, (x, n) -> x.link(0, 0, 1, n));
        dueNone("seat of link", PLACE, (x, n) -> x.link(n, 0, 1, 0), 2, 3);
        dueNone("other of link", PLACE, (x, n) -> x.link(0, 0, n, 0), 2, 3);
        dueRefused("the same seat", ARGUMENT, x -> x.link(0, 0, 0, 0));
        dueRefused("the same seat, the last one", ARGUMENT, x -> x.link(1, 0, 1, 1));
        dueRefused("a lower one", ARGUMENT, x -> x.link(1, 0, 0, 0));
        dueRefused("a lower one, no column", PLACE, x -> x.link(1, 4, 0, 0));
        dueRefused("a lower one, no other column", PLACE, x -> x.link(1, 0, 0, 4));
        Twins.Setup keys = x -> Setups.draft(x, 2, 3);
        Twins.dueRefused("no column in KEYS", PLACE, keys, x -> x.link(0, 2, 1, 0));
        Twins.dueRefused("no other column in KEYS", PLACE, keys, x -> x.link(0, 0, 1, 2));
        Twins.Setup three = x -> {
            Setups.draft(x, 0, 2, 4);
            for (int i = 1; i <= 3; i++) {
                x.link(0, 0, 1, 0);
            }
        };
        Twins.dueRefused("a fourth link", STATE, three, x -> x.link(1, 0, 2, 0));
        Twins.dueRefused("a fourth link, a lower seat", ARGUMENT, three, x -> x.link(1, 0, 0, 0));
        Twins.dueRefused("a fourth link, no seat", PLACE, three, x -> x.link(3, 0, 0, 0));
        Twins.dueRefused("no seats", PLACE, QueryHarbor::clear, x -> x.link(0, 0, 1, 0));
    }

    private static void promise18Where() {
        dueRange("seat of where", PLACE, 0, 1, (x, n) -> x.where(n, 0, 0, 0));
        dueRange("column of a table", PLACE, 0, 3, (x, n) -> x.where(0, n, 0, 0));
        dueRange("column of DOCUMENTS", PLACE, 0, 3, (x, n) -> x.where(1, n, 0, 0));
        dueRange("kind", ARGUMENT, 0, 4, (x, n) -> x.where(0, 0, n, 0));
        for (int kind = QueryHarbor.SAME; kind <= QueryHarbor.IS_MISSING; kind++) {
            int k = kind;
            int most = kind < QueryHarbor.IS_NULL ? 999 : 0;
            dueRange("number for " + kind, ARGUMENT, -most, most, (x, n) -> x.where(1, 3, k, n));
        }
        dueRefused("no column, no kind", PLACE, x -> x.where(0, 4, 5, 1000));
        Twins.dueRefused("no seats", PLACE, QueryHarbor::clear, x -> x.where(0, 0, 0, 0));
        Twins.dueRefused("no column in KEYS", PLACE, x -> Setups.draft(x, 2), x -> x.where(0, 2, 0, 0));
        Twins.Setup four = x -> {
            Setups.draft(x, 0);
            for (int i = 0; i < 4; i++) {
                x.where(0, i, QueryHarbor.MORE, -999);
            }
        };
        Twins.dueRefused("a fifth condition", STATE, four, x -> x.where(0, 0, 0, 0));
        Twins.dueRefused("a fifth condition, no kind", ARGUMENT, four, x -> x.where(0, 0, 5, 0));
        Twins.dueRefused("a fifth condition, no seat", PLACE, four, x -> x.where(1, 0, 0, 0));
    }

    private static void promise19Out() {
        dueRange("seat of out", PLACE, 0, 1, (x, n) -> x.out(n, 0));
        dueRange("column of a table", PLACE, 0, 3, (x, n) -> x.out(0, n));
        dueRange("column of DOCUMENTS", PLACE, 0, 3, (x, n) -> x.out(1, n));
        Twins.dueRefused("no seats", PLACE, QueryHarbor::clear, x -> x.out(0, 0));
        Twins.dueRefused("no column in KEYS", PLACE, x -> Setups.draft(x, 3), x -> x.out(0, 2));
        Twins.Setup three = x -> {
            Setups.draft(x, 0);
            x.out(0, 1);
            x.out(0, 1);
        };
        Twins.dueRefused("a fourth output", STATE, three, x -> x.out(0, 0));
        Twins.dueRefused("a fourth output, no column", PLACE, three, x -> x.out(0, 4));
    }

    private static void promise20Shape() {
        dueRange("limit", ARGUMENT, 1, 40, (x, n) -> {
            x.shape(n, true);
            return 0;
        });
    }

    // ---- asking

    private static void promise22Ask() {
        dueRange("freshness", ARGUMENT, 0, 200, (x, n) -> x.ask(n, 0));
        dueRange("deadline", ARGUMENT, 0, 200, (x, n) -> x.ask(0, n));
        Twins.Setup seats = x -> {
            Twins.busy(x);
            x.clear();
            x.seat(0);
        };
        Twins.dueRefused("no outputs", STATE, seats, x -> x.ask(0, 0));
        Twins.dueRefused("no outputs, too fresh", ARGUMENT, seats, x -> x.ask(201, 0));
        Twins.dueRefused("no outputs, a deadline below", ARGUMENT, seats, x -> x.ask(0, -1));
        Twins.Setup empty = x -> {
            Twins.busy(x);
            x.clear();
        };
        Twins.dueRefused("no seats", STATE, empty, x -> x.ask(0, 0));
        Twins.dueRefused("no seats, a deadline above", ARGUMENT, empty, x -> x.ask(0, 201));
    }

    private static void promise24Answer() {
        Twins.Setup asked = x -> {
            draftPairs(x);
            x.ask(0, 200);
        };
        dueInside("row", asked, 5, QueryHarbor::answer, true);
        dueInside("column", asked, 2, QueryHarbor::answer, false);
        Twins.Setup grouped = x -> {
            draftGroups(x);
            x.ask(0, 200);
        };
        dueInside("row of groups", grouped, 4, QueryHarbor::answer, true);
        dueInside("column of groups", grouped, 3, QueryHarbor::answer, false);
        Twins.Setup none = x -> {
            Setups.draft(x, 0);
            x.ask(0, 200);
        };
        dueInside("row of an answer without rows", none, 0, QueryHarbor::answer, true);
        dueInside("column of an answer without rows", none, 0, QueryHarbor::answer, false);
        dueInside("row of no answer", x -> Setups.draft(x, 0), 0, QueryHarbor::answer, true);
    }

    /** An answer with five rows of two columns. */
    private static void draftPairs(QueryHarbor x) {
        Setups.addRows(x, 0, 5);
        Setups.draft(x, 0);
        x.out(0, 1);
    }

    /** An answer with four groups, of five. */
    private static void draftGroups(QueryHarbor x) {
        Setups.addRows(x, 0, 5);
        Setups.draft(x, 0);
        x.shape(4, true);
    }

    /** A cell of an answer that is tried out. */
    private interface Cell {
        long of(QueryHarbor x, int row, int column);
    }

    /** As many rows, or columns, from 0 on are there; no others. */
    private static void dueInside(String what, Twins.Setup setup, int most, Cell cell, boolean rows) {
        for (int number = -2; number < most + 3; number++) {
            dueInsideAt(what, setup, number >= 0 && number < most, cell, rows ? number : 0, rows ? 0 : number);
        }
        for (int number : ODD) {
            dueInsideAt(what, setup, false, cell, rows ? number : 0, rows ? 0 : number);
        }
    }

    private static void dueInsideAt(String what, Twins.Setup setup, boolean is, Cell cell, int row, int column) {
        if (is) {
            QueryHarbor x = new QueryHarbor();
            setup.on(x);
            dueTaken(what, () -> cell.of(x, row, column));
        } else {
            Twins.dueRefused(what, PLACE, setup, x -> cell.of(x, row, column));
        }
    }

    private static void promise30Taken() {
        for (int seats = 0; seats <= 3; seats++) {
            int count = seats;
            Twins.Setup asked = x -> {
                for (int i = 0; i < count; i++) {
                    x.seat(i);
                }
                if (count > 0) {
                    x.out(0, 0);
                    x.ask(0, 200);
                }
            };
            dueInside("place of " + seats, asked, seats, (x, n, unused) -> x.taken(n), true);
        }
    }

    private static void promise31Size() {
        dueRange("source of size", PLACE, 0, 5, QueryHarbor::size);
    }

    // ---- all data as they are

    private static void promise33AnswersAnew() {
        Twins.dueRefused("no seats", STATE, x -> Setups.addRows(x, 0, 2), QueryHarbor::answersAnew);
        Twins.dueRefused("no outputs", STATE, x -> x.seat(0), QueryHarbor::answersAnew);
    }

    private static void promise34AnswerAnew() {
        Twins.dueRefused("no seats", STATE, x -> Setups.addRows(x, 0, 2), x -> x.answerAnew(0, 0));
        Twins.dueRefused("no outputs, no row", STATE, x -> x.seat(0), x -> x.answerAnew(-1, 0));
        dueInside("row", EdgesOfCallsTest::draftPairs, 5, QueryHarbor::answerAnew, true);
        dueInside("column", EdgesOfCallsTest::draftPairs, 2, QueryHarbor::answerAnew, false);
        dueInside("row of groups", EdgesOfCallsTest::draftGroups, 4, QueryHarbor::answerAnew, true);
        dueInside("column of groups", EdgesOfCallsTest::draftGroups, 3, QueryHarbor::answerAnew, false);
        dueInside("row of none", x -> Setups.draft(x, 5), 0, QueryHarbor::answerAnew, true);
    }

    // ---- bundles

    private static void promise35Step() {
        dueRange("source of step", PLACE, 0, 5, (x, n) -> x.step(QueryHarbor.ADD, n, 0, 0, 0, 0));
        dueRange("kind", ARGUMENT, 0, 2, (x, n) -> x.step(n, 0, 0, 0, 0, 0));
        dueRange("d of CHANGE", ARGUMENT, 0, 0, (x, n) -> x.step(QueryHarbor.CHANGE, 0, 1, 2, 3, n));
        dueRange("b of REMOVE", ARGUMENT, 0, 0, (x, n) -> x.step(QueryHarbor.REMOVE, 0, 1, n, 0, 0));
        dueRange("c of REMOVE", ARGUMENT, 0, 0, (x, n) -> x.step(QueryHarbor.REMOVE, 0, 1, 0, n, 0));
        dueRange("d of REMOVE", ARGUMENT, 0, 0, (x, n) -> x.step(QueryHarbor.REMOVE, 0, 1, 0, 0, n));
        for (int number : ODD) {
            dueStep("cells of ADD " + number, QueryHarbor.ADD, number, number, number, number);
            dueStep("mark, column and cell of CHANGE " + number, QueryHarbor.CHANGE, number, number, number, 0);
            dueStep("mark of REMOVE " + number, QueryHarbor.REMOVE, number, 0, 0, 0);
        }
        dueRefused("no source, no kind", PLACE, x -> x.step(3, 6, 1, 1, 1, 1));
        Twins.Setup four = x -> {
            for (int i = 0; i < 4; i++) {
                x.step(QueryHarbor.ADD, 0, 1, 1, 1, 1);
            }
        };
        Twins.dueRefused("a fifth step", STATE, four, x -> x.step(QueryHarbor.ADD, 0, 2, 2, 2, 2));
        Twins.dueRefused("a fifth step, no kind", ARGUMENT, four, x -> x.step(-1, 0, 2, 2, 2, 2));
        Twins.dueRefused("a fifth step, not 0", ARGUMENT, four, x -> x.step(QueryHarbor.REMOVE, 0, 2, 2, 0, 0));
        Twins.dueRefused("a fifth step, no source", PLACE, four, x -> x.step(QueryHarbor.REMOVE, -1, 2, 2, 0, 0));
    }

    /** A step that is taken, and cannot be done when it would be, but for a row of cells that a table can have. */
    private static void dueStep(String what, int kind, int a, int b, int c, int d) {
        for (int source = 0; source < 6; source++) {
            boolean canBe = kind == QueryHarbor.ADD && source < 2 && (a == NULL || (a >= -999 && a <= 999));
            QueryHarbor x = Setups.withRows(source, 3);
            Checks.due(what, 1, x.step(kind, source, a, b, c, d));
            Checks.due(what + " in " + source + ": run", canBe ? -1 : 0, x.run());
            Checks.due(what + " in " + source + ": moment", canBe ? 4 : 3, x.moment());
        }
    }

    private static void promise36Run() {
        Twins.Setup ran = x -> {
            Twins.busy(x);
            x.run();
        };
        Twins.dueRefused("no steps", STATE, QueryHarbor::clear, QueryHarbor::run);
        Twins.dueRefused("it is empty then", STATE, ran, QueryHarbor::run);
    }
}
