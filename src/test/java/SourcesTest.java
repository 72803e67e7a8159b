/** Promises 1 to 8: a new object, and the calls of the sources. */
public final class SourcesTest {
    private static final int NULL = QueryHarbor.NULL;
    private static final int MISSING = QueryHarbor.MISSING;

    public static void main(String[] args) {
        promise1NewObject();
        promise1FirstBounds();
        promise2AddToTables();
        promise2AddToKeys();
        promise2AddToDocuments();
        promise2WrongCells();
        promise2OrderOfExceptions();
        promise2TwelveRows();
        promise2SixtyAdded();
        promise3Change();
        promise3WrongChanges();
        promise4Remove();
        promise5Count();
        promise6Cell();
        promise7Losses();
        promise8Moment();
        Checks.end("SourcesTest");
    }

    private static void promise1NewObject() {
        QueryHarbor x = new QueryHarbor();
        for (int source = 0; source < 6; source++) {
            Checks.due("count of a new source", 0, x.count(source));
            Checks.due("size of a new source", 10, x.size(source));
        }
        Checks.due("first tick", 0, x.now());
        Checks.due("first moment", 0, x.moment());
        Checks.due("first losses", 0, x.losses());
        for (int store = 0; store < 3; store++) {
            Checks.due("first quota", 20, x.setBounds(store, 20, 12));
            Checks.due("first lease", 60, x.setLease(store, 60));
            Checks.due("first failing", 0, x.fail(store, 0, false));
            Checks.due("first delay", 1, x.setPace(store, 1, 0));
            for (int source = 0; source < 6; source++) {
                Checks.due("first forbid", false, x.forbid(source, store, false));
            }
        }
        Checks.due("first entries", 0, x.entries());
        Checks.due("no answer: answers", 0, x.answers());
        Checks.due("no answer: missing", 0, x.missing());
        Checks.due("no answer: claims", -1, x.claims());
        Checks.due("no answer: cost", 0, x.cost());
        Checks.due("no answer: attempts", 0, x.attempts());
        Checks.due("no answer: shipped", 0, x.shipped());
        Checks.place("no answer: answer", () -> x.answer(0, 0));
        Checks.place("no answer: taken", () -> x.taken(0));
        Checks.state("empty draft: ask", () -> x.ask(0, 0));
        Checks.state("empty draft: answersAnew", () -> x.answersAnew());
        Checks.state("empty bundle: run", () -> x.run());
        Checks.due("empty draft: clear", 0, x.clear());
    }

    /** The cap 12 cuts nothing, the lag 0 drops at once, the limit is 40, and it does not group. */
    private static void promise1FirstBounds() {
        QueryHarbor x = new QueryHarbor();
        for (int i = 0; i < 12; i++) {
            x.add(0, i, 0, 0, 0);
            x.add(1, i, 0, 0, 0);
        }
        x.seat(0);
        x.seat(1);
        x.out(0, 0);
        x.out(1, 0);
        Checks.due("first limit", 40, x.ask(0, 200));
        Checks.due("first cap", 0, x.missing());
        Checks.due("does not group", 3, x.answer(3, 1));
        Checks.due("two entries", 2, x.entries());
        x.change(0, 0, 0, 1);
        Checks.due("first lag", 1, x.entries());
    }

    private static void promise2AddToTables() {
        QueryHarbor x = new QueryHarbor();
        Checks.due("add", 0, x.add(0, 999, -999, NULL, 0));
        Checks.due("add the same again", 1, x.add(0, 999, -999, NULL, 0));
        Checks.due("add to the other table", 0, x.add(1, 100, 100, 100, 100));
        Checks.due("cell", 999, x.cell(0, 0, 0));
        Checks.due("cell", -999, x.cell(0, 0, 1));
        Checks.due("cell", NULL, x.cell(0, 0, 2));
        Checks.due("cell", 0, x.cell(0, 0, 3));
        x.remove(0, 1);
        Checks.due("a mark is not used anew", 2, x.add(0, 5, 6, 7, 8));
        Checks.due("cell", 8, x.cell(0, 2, 3));
    }

    private static void promise2AddToKeys() {
        QueryHarbor x = new QueryHarbor();
        Checks.due("add the least key", 0, x.add(2, 0, 99, 0, 0));
        Checks.due("add the greatest key", 99, x.add(2, 99, NULL, 0, 0));
        Checks.due("add to the other source", 0, x.add(3, 0, -1, 0, 0));
        Checks.due("value kept", 99, x.cell(2, 0, 1));
        Checks.due("null kept", NULL, x.cell(2, 99, 1));
        Checks.due("value below", 0, x.cell(3, 0, 1));
        Checks.state("the same key", () -> x.add(2, 99, 1, 0, 0));
        x.remove(2, 99);
        Checks.due("the same key anew", 99, x.add(2, 99, 1, 0, 0));
    }

    private static void promise2AddToDocuments() {
        QueryHarbor x = new QueryHarbor();
        Checks.due("add", 99, x.add(4, 99, MISSING, NULL, -999));
        Checks.due("add", 0, x.add(5, 0, 999, MISSING, MISSING));
        Checks.due("cell", 99, x.cell(4, 99, 0));
        Checks.due("cell", MISSING, x.cell(4, 99, 1));
        Checks.due("cell", NULL, x.cell(4, 99, 2));
        Checks.due("cell", -999, x.cell(4, 99, 3));
        Checks.state("the same id", () -> x.add(4, 99, 1, 1, 1));
        Checks.due("the same id elsewhere", 99, x.add(5, 99, 1, 1, 1));
    }

    private static void promise2WrongCells() {
        QueryHarbor x = new QueryHarbor();
        int[] wrong = {1000, -1000, 4999, 5002, Integer.MAX_VALUE, Integer.MIN_VALUE};
        for (int cell : wrong) {
            Checks.argument("a in a table", () -> x.add(0, cell, 0, 0, 0));
            Checks.argument("b in a table", () -> x.add(1, 0, cell, 0, 0));
            Checks.argument("c in a table", () -> x.add(0, 0, 0, cell, 0));
            Checks.argument("d in a table", () -> x.add(1, 0, 0, 0, cell));
            Checks.argument("key", () -> x.add(2, cell, 0, 0, 0));
            Checks.argument("value", () -> x.add(3, 0, cell, 0, 0));
            Checks.argument("id", () -> x.add(4, cell, 0, 0, 0));
            Checks.argument("field", () -> x.add(5, 0, cell, 0, 0));
            Checks.argument("field", () -> x.add(5, 0, 0, cell, 0));
            Checks.argument("field", () -> x.add(5, 0, 0, 0, cell));
        }
        Checks.argument("missing in a table", () -> x.add(0, 0, 0, 0, MISSING));
        Checks.argument("missing as a value", () -> x.add(2, 0, MISSING, 0, 0));
        Checks.argument("null as a key", () -> x.add(2, NULL, 0, 0, 0));
        Checks.argument("null as an id", () -> x.add(4, NULL, 0, 0, 0));
        Checks.argument("missing as an id", () -> x.add(4, MISSING, 0, 0, 0));
        Checks.argument("key below", () -> x.add(2, -1, 0, 0, 0));
        Checks.argument("key above", () -> x.add(2, 100, 0, 0, 0));
        Checks.argument("id below", () -> x.add(4, -1, 0, 0, 0));
        Checks.argument("id above", () -> x.add(4, 100, 0, 0, 0));
        Checks.argument("c in KEYS", () -> x.add(2, 0, 0, 1, 0));
        Checks.argument("d in KEYS", () -> x.add(3, 0, 0, 0, NULL));
        for (int source = 0; source < 6; source++) {
            Checks.due("nothing was added", 0, x.count(source));
        }
        Checks.due("nothing was written", 0, x.moment());
        Checks.due("nothing was lost", 0, x.losses());
        Checks.due("no mark was used", 0, x.add(0, 0, 0, 0, 0));
    }

    private static void promise2OrderOfExceptions() {
        QueryHarbor x = new QueryHarbor();
        Checks.place("source above, cell wrong", () -> x.add(6, 9999, 0, 0, 0));
        Checks.place("source below", () -> x.add(-1, 0, 0, 0, 0));
        Checks.place("source far above", () -> x.add(Integer.MAX_VALUE, 0, 0, 0, 0));
        Checks.place("source far below", () -> x.add(Integer.MIN_VALUE, 0, 0, 0, 0));
        x.add(2, 7, 1, 0, 0);
        Checks.argument("key there, value wrong", () -> x.add(2, 7, 1000, 0, 0));
        Checks.state("key there, value to be changed", () -> x.add(2, 7, 500, 0, 0));
        Checks.due("no loss by what was not done", 0, x.losses());
        Checks.due("no moment by what was not done", 1, x.moment());
    }

    private static void promise2TwelveRows() {
        QueryHarbor x = new QueryHarbor();
        for (int source = 0; source < 6; source++) {
            int s = source;
            for (int i = 0; i < 12; i++) {
                Checks.due("add", i, x.add(s, i, 1, 0, 0));
            }
            Checks.state("the thirteenth row", () -> x.add(s, 50, 1, 0, 0));
            Checks.argument("the thirteenth row, wrong", () -> x.add(s, 1000, 1, 0, 0));
            x.remove(s, 3);
            Checks.due("room again", s < 2 ? 12 : 50, x.add(s, 50, 1, 0, 0));
            Checks.due("twelve rows", 12, x.count(s));
        }
    }

    private static void promise2SixtyAdded() {
        QueryHarbor x = new QueryHarbor();
        for (int i = 0; i < 60; i++) {
            Checks.due("add", i, x.add(1, i, 0, 0, 0));
            x.remove(1, i);
        }
        Checks.state("the sixty-first row", () -> x.add(1, 0, 0, 0, 0));
        Checks.due("the other table", 0, x.add(0, 0, 0, 0, 0));
        QueryHarbor y = new QueryHarbor();
        for (int i = 0; i < 61; i++) {
            y.add(4, 5, 0, 0, 0);
            y.remove(4, 5);
        }
        Checks.due("documents as often as one likes", 5, y.add(4, 5, 0, 0, 0));
    }

    private static void promise3Change() {
        QueryHarbor x = new QueryHarbor();
        x.add(0, 1, 2, 3, 4);
        x.add(2, 5, 50, 0, 0);
        x.add(5, 6, 7, MISSING, 9);
        Checks.due("column 0 of a table", 1, x.change(0, 0, 0, NULL));
        Checks.due("what it has then", NULL, x.cell(0, 0, 0));
        Checks.due("column 3 of a table", 4, x.change(0, 0, 3, -999));
        Checks.due("value", 50, x.change(2, 5, 1, 100));
        Checks.due("the value became 99", 99, x.change(2, 5, 1, NULL));
        Checks.due("null was there", NULL, x.change(2, 5, 1, 0));
        Checks.due("field", MISSING, x.change(5, 6, 2, 8));
        Checks.due("field", 8, x.change(5, 6, 2, MISSING));
        Checks.due("others stay", 7, x.cell(5, 6, 1));
        Checks.due("others stay", 9, x.cell(5, 6, 3));
        Checks.due("rows stay", 1, x.count(5));
    }

    private static void promise3WrongChanges() {
        QueryHarbor x = new QueryHarbor();
        x.add(0, 1, 2, 3, 4);
        x.add(2, 5, 50, 0, 0);
        x.add(4, 6, 7, 8, 9);
        Checks.place("no source", () -> x.change(6, 0, 0, 9999));
        Checks.place("no source", () -> x.change(-1, 0, 0, 0));
        Checks.place("no row", () -> x.change(0, 1, 0, 9999));
        Checks.place("no row", () -> x.change(2, 4, 0, 0));
        Checks.place("no row", () -> x.change(4, -1, 1, 0));
        Checks.place("no column", () -> x.change(0, 0, 4, 9999));
        Checks.place("no column", () -> x.change(0, 0, -1, 0));
        Checks.place("no column in KEYS", () -> x.change(2, 5, 2, 0));
        Checks.place("no column", () -> x.change(4, 6, 4, 0));
        Checks.argument("the key", () -> x.change(2, 5, 0, 5));
        Checks.argument("the id", () -> x.change(4, 6, 0, 6));
        Checks.argument("cell above", () -> x.change(0, 0, 1, 1000));
        Checks.argument("cell below", () -> x.change(0, 0, 1, -1000));
        Checks.argument("missing in a table", () -> x.change(0, 0, 1, MISSING));
        Checks.argument("missing as a value", () -> x.change(2, 5, 1, MISSING));
        Checks.argument("value above", () -> x.change(2, 5, 1, 1000));
        Checks.argument("field above", () -> x.change(4, 6, 3, 1000));
        Checks.due("nothing changed", 3, x.moment());
        Checks.due("nothing lost", 0, x.losses());
        Checks.due("cell", 2, x.cell(0, 0, 1));
        Checks.due("cell", 50, x.cell(2, 5, 1));
        Checks.due("cell", 9, x.cell(4, 6, 3));
    }

    private static void promise4Remove() {
        QueryHarbor x = new QueryHarbor();
        for (int i = 0; i < 3; i++) {
            x.add(0, 10 + i, 20 + i, 30 + i, 40 + i);
            x.add(3, 30 - i, 50 + i, 0, 0);
        }
        Checks.due("remove the middle one", 2, x.remove(0, 1));
        Checks.due("others stay", 12, x.cell(0, 2, 0));
        Checks.due("others stay", 40, x.cell(0, 0, 3));
        Checks.place("not there again", () -> x.remove(0, 1));
        Checks.place("its cells are gone", () -> x.cell(0, 1, 0));
        Checks.due("remove the first one", 2, x.remove(3, 28));
        Checks.due("others stay", 51, x.cell(3, 29, 1));
        Checks.due("remove", 1, x.remove(3, 30));
        Checks.due("remove the last one", 0, x.remove(3, 29));
        Checks.place("none left", () -> x.remove(3, 29));
        Checks.place("no source", () -> x.remove(6, 0));
        Checks.place("no source", () -> x.remove(-1, 0));
        Checks.place("no row", () -> x.remove(0, -1));
        Checks.due("nothing more was written", 10, x.moment());
    }

    private static void promise5Count() {
        QueryHarbor x = new QueryHarbor();
        x.add(1, 0, 0, 0, 0);
        x.add(1, 0, 0, 0, 0);
        Checks.due("count", 2, x.count(1));
        Checks.due("count", 0, x.count(0));
        x.remove(1, 0);
        Checks.due("count", 1, x.count(1));
        Checks.place("no source", () -> x.count(6));
        Checks.place("no source", () -> x.count(-1));
    }

    private static void promise6Cell() {
        QueryHarbor x = new QueryHarbor();
        x.add(0, 1, 2, 3, 4);
        x.add(2, 5, 50, 0, 0);
        x.add(4, 6, MISSING, NULL, 9);
        for (int column = 0; column < 4; column++) {
            Checks.due("cell", column + 1, x.cell(0, 0, column));
        }
        Checks.due("key", 5, x.cell(2, 5, 0));
        Checks.due("value", 50, x.cell(2, 5, 1));
        Checks.due("id", 6, x.cell(4, 6, 0));
        Checks.due("field", MISSING, x.cell(4, 6, 1));
        Checks.due("field", NULL, x.cell(4, 6, 2));
        Checks.place("no source", () -> x.cell(6, 0, 0));
        Checks.place("no source", () -> x.cell(-1, 0, 0));
        Checks.place("no row", () -> x.cell(0, 1, 0));
        Checks.place("no row", () -> x.cell(2, 6, 0));
        Checks.place("no column", () -> x.cell(0, 0, 4));
        Checks.place("no column", () -> x.cell(0, 0, -1));
        Checks.place("no column in KEYS", () -> x.cell(2, 5, 2));
        Checks.place("no column", () -> x.cell(4, 6, 4));
    }

    private static void promise7Losses() {
        QueryHarbor x = new QueryHarbor();
        x.add(2, 1, 0, 0, 0);
        x.add(2, 2, 99, 0, 0);
        x.add(2, 3, NULL, 0, 0);
        x.add(0, 500, -500, 0, 0);
        x.add(4, 1, 500, -500, 0);
        Checks.due("nothing lost", 0, x.losses());
        x.add(2, 4, -1, 0, 0);
        Checks.due("below", 1, x.losses());
        x.add(2, 5, 100, 0, 0);
        Checks.due("above", 2, x.losses());
        x.change(2, 5, 1, 100);
        Checks.due("the same again", 3, x.losses());
        x.change(2, 5, 1, NULL);
        x.change(2, 5, 1, 99);
        x.change(2, 5, 1, 0);
        Checks.due("edges", 3, x.losses());
        x.change(2, 5, 1, -999);
        Checks.due("below", 4, x.losses());
        x.remove(2, 5);
        Checks.due("losses stay", 4, x.losses());
    }

    private static void promise8Moment() {
        QueryHarbor x = new QueryHarbor();
        x.add(0, 1, 2, 3, 4);
        Checks.due("add", 1, x.moment());
        x.change(0, 0, 0, 7);
        Checks.due("change", 2, x.moment());
        x.change(0, 0, 0, 7);
        Checks.due("change to what it has", 3, x.moment());
        x.remove(0, 0);
        Checks.due("remove", 4, x.moment());
        x.pass(10);
        x.seat(0);
        x.out(0, 0);
        x.ask(0, 0);
        x.answersAnew();
        x.setPace(0, 0, 0);
        x.clear();
        Checks.due("nothing else", 4, x.moment());
    }
}
