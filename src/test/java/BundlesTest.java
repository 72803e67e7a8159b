/** Promises 35 and 36: bundles. */
public final class BundlesTest {
    private static final int NULL = QueryHarbor.NULL;
    private static final int MISSING = QueryHarbor.MISSING;
    private static final int ADD = QueryHarbor.ADD;
    private static final int CHANGE = QueryHarbor.CHANGE;
    private static final int REMOVE = QueryHarbor.REMOVE;

    public static void main(String[] args) {
        promise35Step();
        promise36Run();
        promise36CannotBeDone();
        promise36TakenBack();
        promise36TakenBackInTables();
        promise36Failing();
        promise36DoneByWhatFails();
        promise36NotDoneByWhatFails();
        promise36Time();
        promise36Messages();
        Checks.end("BundlesTest");
    }

    private static void promise35Step() {
        QueryHarbor x = new QueryHarbor();
        Checks.place("no source", () -> x.step(ADD, 6, 0, 0, 0, 0));
        Checks.place("no source, no kind", () -> x.step(3, -1, 0, 0, 0, 0));
        Checks.argument("kind above", () -> x.step(3, 0, 0, 0, 0, 0));
        Checks.argument("kind below", () -> x.step(-1, 0, 0, 0, 0, 0));
        Checks.argument("d of CHANGE", () -> x.step(CHANGE, 0, 0, 0, 0, 1));
        Checks.argument("b of REMOVE", () -> x.step(REMOVE, 0, 0, 1, 0, 0));
        Checks.argument("c of REMOVE", () -> x.step(REMOVE, 0, 0, 0, 1, 0));
        Checks.argument("d of REMOVE", () -> x.step(REMOVE, 0, 0, 0, 0, -1));
        Checks.state("no steps", () -> x.run());
        Checks.due("cells are not looked at", 1, x.step(ADD, 2, 1000, MISSING, 7, 9999));
        Checks.due("nor are marks and columns", 2, x.step(CHANGE, 2, -5, 99, 7777, 0));
        Checks.due("step", 3, x.step(REMOVE, 5, 1234, 0, 0, 0));
        Checks.due("step", 4, x.step(REMOVE, 5, 1234, 0, 0, 0));
        Checks.state("a fifth one", () -> x.step(REMOVE, 5, 0, 0, 0, 0));
        Checks.argument("a fifth one, wrong", () -> x.step(REMOVE, 5, 0, 1, 0, 0));
        Checks.place("a fifth one, nowhere", () -> x.step(REMOVE, 6, 0, 1, 0, 0));
        Checks.due("nothing is done yet", 0, x.moment());
        Checks.due("the first one ends it", 0, x.run());
        Checks.due("it is empty then", 1, x.step(ADD, 0, 1, 2, 3, 4));
    }

    private static void promise36Run() {
        QueryHarbor x = new QueryHarbor();
        x.add(2, 5, 50, 0, 0);
        x.step(ADD, 0, 1, NULL, 3, 4);
        x.step(CHANGE, 2, 5, 1, 300, 0);
        x.step(ADD, 4, 7, MISSING, 2, 3);
        x.step(REMOVE, 4, 7, 0, 0, 0);
        Checks.due("run", -1, x.run());
        Checks.due("added", NULL, x.cell(0, 0, 1));
        Checks.due("changed", 99, x.cell(2, 5, 1));
        Checks.due("a loss", 1, x.losses());
        Checks.due("added and removed", 0, x.count(4));
        Checks.due("four writes", 5, x.moment());
        Checks.due("four requests", 4, x.now());
        Checks.state("it is empty", () -> x.run());
    }

    private static void dueNotDone(String what, int kind, int source, int a, int b, int c, int d) {
        QueryHarbor x = new QueryHarbor();
        x.add(0, 1, 2, 3, 4);
        x.add(2, 5, 50, 0, 0);
        x.add(4, 6, 7, 8, 9);
        for (int i = 0; i < 12; i++) {
            x.add(3, i, 0, 0, 0);
            x.add(1, i, 0, 0, 0);
        }
        int moment = x.moment();
        x.step(kind, source, a, b, c, d);
        Checks.due(what, 0, x.run());
        Checks.due(what + ": moment", moment, x.moment());
        Checks.due(what + ": losses", 0, x.losses());
        Checks.due(what + ": attempts of one request", 1, x.now());
        Checks.state(what + ": it is empty", () -> x.run());
    }

    private static void promise36CannotBeDone() {
        dueNotDone("cell above", ADD, 0, 1000, 0, 0, 0);
        dueNotDone("cell above", ADD, 0, 0, 1000, 0, 0);
        dueNotDone("cell above", ADD, 0, 0, 0, 1000, 0);
        dueNotDone("missing in a table", ADD, 0, 0, 0, 0, MISSING);
        dueNotDone("twelve rows in a table", ADD, 1, 0, 0, 0, 0);
        dueNotDone("twelve rows in KEYS", ADD, 3, 50, 0, 0, 0);
        dueNotDone("the key is there", ADD, 2, 5, 500, 0, 0);
        dueNotDone("c in KEYS", ADD, 2, 6, 0, 1, 0);
        dueNotDone("the id is there", ADD, 4, 6, 0, 0, 0);
        dueNotDone("id above", ADD, 4, 100, 0, 0, 0);
        dueNotDone("no row to change", CHANGE, 0, 1, 0, 0, 0);
        dueNotDone("no column", CHANGE, 0, 0, 4, 0, 0);
        dueNotDone("no column below", CHANGE, 0, 0, -1, 0, 0);
        dueNotDone("no column in KEYS", CHANGE, 2, 5, 2, 0, 0);
        dueNotDone("the key", CHANGE, 2, 5, 0, 5, 0);
        dueNotDone("the id", CHANGE, 4, 6, 0, 6, 0);
        dueNotDone("a wrong cell", CHANGE, 0, 0, 1, 1000, 0);
        dueNotDone("missing as a value", CHANGE, 2, 5, 1, MISSING, 0);
        dueNotDone("no row to remove", REMOVE, 4, 5, 0, 0, 0);
    }

    private static void promise36TakenBack() {
        QueryHarbor x = new QueryHarbor();
        x.add(2, 5, 50, 0, 0);
        x.add(2, 6, 60, 0, 0);
        x.add(4, 1, MISSING, NULL, 9);
        x.step(REMOVE, 2, 5, 0, 0, 0);
        x.step(ADD, 2, 5, -70, 0, 0);
        x.step(CHANGE, 4, 1, 1, 4, 0);
        x.step(CHANGE, 2, 7, 1, 4, 0);
        Checks.due("the last one ends it", 3, x.run());
        Checks.due("the last one is taken back first", 50, x.cell(2, 5, 1));
        Checks.due("rows", 2, x.count(2));
        Checks.due("what it had", MISSING, x.cell(4, 1, 1));
        Checks.due("the loss stays, and is the only one", 1, x.losses());
        Checks.due("three writes, and three back", 9, x.moment());
        Checks.due("taking back needs no requests", 4, x.now());
        x.step(CHANGE, 2, 5, 1, 400, 0);
        x.step(CHANGE, 2, 5, 1, 30, 0);
        x.step(CHANGE, 2, 5, 1, -30, 0);
        x.step(ADD, 2, 6, 0, 0, 0);
        Checks.due("the last one ends it", 3, x.run());
        Checks.due("one after the other", 50, x.cell(2, 5, 1));
        x.step(REMOVE, 2, 6, 0, 0, 0);
        x.step(REMOVE, 2, 6, 0, 0, 0);
        Checks.due("another row at the same place of a bundle", 1, x.run());
        Checks.due("it comes back, too", 60, x.cell(2, 6, 1));
        Checks.due("and it alone", 2, x.count(2));
        Checks.due("losses", 3, x.losses());
        x.seat(2);
        x.out(0, 0);
        Checks.due("a row that came back is at its place", 5, x.answerAnew(0, 0));
    }

    private static void promise36TakenBackInTables() {
        QueryHarbor x = new QueryHarbor();
        x.add(0, 10, 11, 12, 13);
        x.add(0, 20, 21, 22, 23);
        x.add(0, 30, 31, 32, 33);
        x.step(REMOVE, 0, 1, 0, 0, 0);
        x.step(ADD, 0, 40, 41, 42, 43);
        x.step(REMOVE, 0, 3, 0, 0, 0);
        x.step(REMOVE, 0, 1, 0, 0, 0);
        Checks.due("it is not there twice", 3, x.run());
        for (int column = 0; column < 4; column++) {
            Checks.due("it comes back with its mark", 20 + column, x.cell(0, 1, column));
        }
        Checks.due("rows", 3, x.count(0));
        Checks.place("the added one is gone", () -> x.cell(0, 3, 0));
        Checks.due("its mark is not used anew", 4, x.add(0, 0, 0, 0, 0));
        x.seat(0);
        x.out(0, 0);
        x.ask(0, 200);
        Checks.due("in the order of their marks", 20, x.answer(1, 0));
        Checks.due("in the order of their marks", 30, x.answer(2, 0));
        QueryHarbor y = new QueryHarbor();
        for (int i = 0; i < 59; i++) {
            y.add(0, i, 0, 0, 0);
            y.remove(0, i);
        }
        y.step(ADD, 0, 1, 1, 1, 1);
        y.step(ADD, 0, 1, 1, 1, 1);
        Checks.due("the sixty-first one cannot be added", 1, y.run());
        Checks.state("sixty were added", () -> y.add(0, 1, 1, 1, 1));
    }

    private static void promise36Failing() {
        QueryHarbor x = new QueryHarbor();
        x.add(0, 1, 1, 1, 1);
        x.fail(0, 2, false);
        x.step(CHANGE, 0, 0, 0, 2, 0);
        Checks.due("the third attempt does it", -1, x.run());
        Checks.due("three attempts", 3, x.now());
        Checks.due("done once", 2, x.moment());
        x.fail(0, 4, false);
        x.step(ADD, 4, 1, 1, 1, 1);
        x.step(CHANGE, 0, 0, 0, 3, 0);
        Checks.due("no attempt does it", 1, x.run());
        Checks.due("three attempts more, and one", 7, x.now());
        Checks.due("one more was to fail", 1, x.fail(0, 0, false));
        Checks.due("what it had", 2, x.cell(0, 0, 0));
        Checks.due("the other step is taken back", 0, x.count(4));
        Checks.due("its writes", 4, x.moment());
    }

    private static void promise36DoneByWhatFails() {
        QueryHarbor x = new QueryHarbor();
        x.add(2, 5, 50, 0, 0);
        x.fail(1, 1, true);
        x.step(ADD, 2, 6, 600, 0, 0);
        Checks.due("done by the first attempt", -1, x.run());
        Checks.due("not done twice", 2, x.moment());
        Checks.due("one loss", 1, x.losses());
        Checks.due("two attempts", 2, x.now());
        x.fail(1, 3, true);
        x.step(ADD, 0, 1, 1, 1, 1);
        x.step(ADD, 2, 7, 700, 0, 0);
        Checks.due("done, but without an answer", 1, x.run());
        Checks.due("taken back", 2, x.count(2));
        Checks.due("taken back", 0, x.count(0));
        Checks.due("two writes, and two back", 6, x.moment());
        Checks.due("the loss stays", 2, x.losses());
        Checks.due("four attempts", 6, x.now());
        x.fail(1, 2, true);
        x.fail(1, 3, false);
        x.step(REMOVE, 2, 5, 0, 0, 0);
        Checks.due("it does not do it any more", 0, x.run());
        Checks.due("no write", 6, x.moment());
    }

    private static void promise36NotDoneByWhatFails() {
        QueryHarbor x = new QueryHarbor();
        x.fail(2, 2, true);
        x.step(REMOVE, 4, 1, 0, 0, 0);
        x.step(ADD, 4, 1, 0, 0, 0);
        Checks.due("it could not be done", 0, x.run());
        Checks.due("what fails tells nothing, so others followed", 3, x.now());
        Checks.due("none is left", 0, x.fail(2, 0, false));
        Checks.due("no write", 0, x.moment());
    }

    private static void promise36Time() {
        QueryHarbor x = new QueryHarbor();
        x.setPace(0, 3, 0);
        x.setBounds(0, 2, 12);
        for (int i = 0; i < 3; i++) {
            x.step(ADD, 0, i, i, i, i);
        }
        x.run();
        Checks.due("the third one has waited for the quota", 13, x.now());
        x.setPace(0, 30, 0);
        x.fail(0, 2, false);
        x.seat(0);
        x.out(0, 0);
        x.ask(0, 0);
        Checks.due("the query is too late", 1, x.missing());
        x.step(REMOVE, 0, 0, 0, 0, 0);
        Checks.due("a bundle has no deadline", -1, x.run());
        Checks.due("its time", 103, x.now());
        Checks.due("attempts of the answer", 1, x.attempts());
    }

    private static void promise36Messages() {
        QueryHarbor x = new QueryHarbor();
        x.add(0, 1, 1, 1, 1);
        x.setPace(0, 2, 5);
        x.seat(0);
        x.out(0, 1);
        x.ask(0, 200);
        x.step(CHANGE, 0, 0, 1, 7, 0);
        x.step(REMOVE, 0, 9, 0, 0, 0);
        Checks.due("the second one ends it", 1, x.run());
        x.ask(200, 200);
        Checks.due("the first write has ended what the entry is right for", 1, x.claims());
        x.pass(2);
        Checks.due("sent when it was done, at 4", 1, x.entries());
        x.pass(1);
        Checks.due("comes at 9", 0, x.entries());
        x.pass(1);
        x.ask(0, 200);
        Checks.due("both writes count", 3, x.claims());
        Checks.due("as it was", 1, x.answer(0, 0));
    }
}
