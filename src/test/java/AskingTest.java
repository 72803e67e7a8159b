/** Promises 22 to 32: asking, what the answer has cost, what it claims, and the cache. */
public final class AskingTest {
    private static final int NULL = QueryHarbor.NULL;
    private static final int MISSING = QueryHarbor.MISSING;
    private static final int SAME = QueryHarbor.SAME;
    private static final int LESS = QueryHarbor.LESS;
    private static final int MORE = QueryHarbor.MORE;
    private static final int IS_NULL = QueryHarbor.IS_NULL;
    private static final int IS_MISSING = QueryHarbor.IS_MISSING;

    public static void main(String[] args) {
        promise22WrongArguments();
        promise22Deadline();
        promise22DeadlineBehindQuota();
        promise23Answers();
        promise24Answer();
        promise25Missing();
        promise26Claims();
        promise26ClaimsOfTheCache();
        promise26ClaimsBetweenWrites();
        promise26ClaimsFromTheEntryOn();
        promise27Cost();
        promise24ThreeSeats();
        promise27WhatIsSent();
        promise28Attempts();
        promise29Shipped();
        promise30TakenByGuess();
        promise30TakenByLinks();
        promise30Bound();
        promise30BoundByFirstLink();
        promise30BoundInBatches();
        promise30KeysRise();
        promise30BindWithoutAnswer();
        promise30NotBound();
        promise30Switched();
        promise30SwitchedAndOpen();
        promise31Size();
        promise32EntriesAtMost();
        promise32EntriesServe();
        promise32ServedByConditions();
        promise32MadeAnew();
        promise32LeasesOfStores();
        promise32Messages();
        promise32DroppedInTheMiddle();
        Checks.end("AskingTest");
    }

    private static void promise22WrongArguments() {
        QueryHarbor x = new QueryHarbor();
        Checks.argument("fresh below, no seats", () -> x.ask(-1, 0));
        Checks.argument("fresh above", () -> x.ask(201, 0));
        Checks.argument("deadline below", () -> x.ask(0, -1));
        Checks.argument("deadline above", () -> x.ask(0, 201));
        Checks.state("no seats", () -> x.ask(0, 0));
        x.seat(0);
        Checks.state("no outputs", () -> x.ask(200, 200));
        x.out(0, 0);
        x.add(0, 5, 0, 0, 0);
        Checks.due("ask", 1, x.ask(200, 200));
        Checks.argument("wrong", () -> x.ask(0, 201));
        x.clear();
        Checks.state("no seats", () -> x.ask(0, 0));
        Checks.due("the answer stays", 5, x.answer(0, 0));
    }

    private static void promise22Deadline() {
        QueryHarbor x = Setups.withRows(0, 1);
        Setups.draft(x, 0);
        x.setPace(0, 5, 0);
        x.fail(0, 2, false);
        Checks.due("ten ticks are more than the deadline", 0, x.ask(0, 5));
        Checks.due("two attempts", 2, x.attempts());
        Checks.due("the time of two", 10, x.now());
        Checks.due("open", 1, x.missing());
        x.fail(0, 2, false);
        Checks.due("as many as the deadline are not more", 1, x.ask(0, 10));
        Checks.due("three attempts", 3, x.attempts());
        Checks.due("the answer may come later", 25, x.now());
        x.pass(1);
        x.fail(0, 1, false);
        Checks.due("the first attempt is always made", 0, x.ask(0, 0));
        Checks.due("one attempt", 1, x.attempts());
        Checks.due("what was not to fail still", 0, x.fail(0, 0, false));
    }

    private static void promise22DeadlineBehindQuota() {
        QueryHarbor x = Setups.withRows(0, 1);
        Setups.draft(x, 0);
        x.setBounds(0, 1, 12);
        x.ask(0, 0);
        x.pass(1);
        x.fail(0, 1, false);
        Checks.due("no attempt", 0, x.ask(0, 7));
        Checks.due("no attempt", 0, x.attempts());
        Checks.due("no cost", 0, x.cost());
        Checks.due("but it has waited", 10, x.now());
        Checks.due("open", 1, x.missing());
        Checks.due("the failure is still to come", 1, x.fail(0, 0, false));
        Checks.due("nothing counts for the window", 1, x.ask(0, 7));
        Checks.due("now", 11, x.now());
        x.pass(1);
        Checks.due("eight ticks are allowed", 1, x.ask(0, 8));
        Checks.due("now", 21, x.now());
    }

    private static void promise23Answers() {
        QueryHarbor x = Setups.withRows(0, 3);
        Setups.draft(x, 0);
        x.ask(0, 200);
        Checks.due("answers", 3, x.answers());
        x.add(0, 1, 1, 1, 1);
        x.pass(1);
        x.where(0, 0, SAME, 1);
        Checks.due("as they were", 3, x.answers());
        Checks.due("ask", 2, x.ask(0, 200));
        Checks.due("answers", 2, x.answers());
    }

    private static void promise24Answer() {
        QueryHarbor x = new QueryHarbor();
        x.add(4, 7, NULL, MISSING, 3);
        x.add(4, 2, 1, 1, 1);
        x.seat(4);
        x.out(0, 1);
        x.out(0, 2);
        x.out(0, 0);
        x.ask(0, 200);
        Checks.due("rows by their ids", 2, x.answer(0, 2));
        Checks.due("cell", NULL, x.answer(1, 0));
        Checks.due("cell", MISSING, x.answer(1, 1));
        Checks.due("cell", 7, x.answer(1, 2));
        Checks.place("no row", () -> x.answer(2, 0));
        Checks.place("no row", () -> x.answer(-1, 0));
        Checks.place("no column", () -> x.answer(0, 3));
        Checks.place("no column", () -> x.answer(0, -1));
        x.change(4, 7, 1, 9);
        x.remove(4, 2);
        Checks.due("as it was", NULL, x.answer(1, 0));
        Setups.draft(x, 4);
        x.shape(40, true);
        Checks.place("still not grouped", () -> x.answer(2, 2));
        x.ask(0, 200);
        Checks.due("grouped: count", 1, x.answer(0, 1));
        Checks.due("grouped: sum", 7, x.answer(0, 2));
        Checks.place("grouped: no column", () -> x.answer(0, 3));
        x.shape(40, false);
        Checks.due("still grouped", 7, x.answer(0, 2));
        x.ask(10, 200);
        Checks.place("one output, one column", () -> x.answer(0, 1));
    }

    private static void promise25Missing() {
        QueryHarbor x = Setups.withRows(0, 3);
        Setups.addRows(x, 2, 3);
        Setups.addRows(x, 4, 3);
        Setups.draft(x, 0, 2, 4);
        x.ask(0, 200);
        Checks.due("whole", 0, x.missing());
        x.pass(1);
        x.setBounds(0, 20, 2);
        x.fail(2, 3, false);
        Checks.due("what came is answered", 0, x.ask(0, 200));
        Checks.due("cut, and without an answer", 5, x.missing());
        x.clear();
        Checks.due("it stays", 5, x.missing());
        Setups.draft(x, 4);
        x.ask(0, 200);
        Checks.due("whole again", 0, x.missing());
    }

    private static void promise26Claims() {
        QueryHarbor x = new QueryHarbor();
        Setups.draft(x, 0);
        x.ask(0, 200);
        Checks.due("nothing written", 0, x.claims());
        Setups.addRows(x, 4, 2);
        x.ask(200, 200);
        Checks.due("the entry is right for what other sources wrote", 2, x.claims());
        x.add(0, 1, 1, 1, 1);
        Checks.due("as that was when it came", 2, x.claims());
        x.setBounds(0, 20, 0);
        x.pass(1);
        x.ask(0, 200);
        Checks.due("not whole", -1, x.claims());
        x.setBounds(0, 20, 12);
        x.ask(0, 200);
        Checks.due("of now", 3, x.claims());
        x.clear();
        Checks.due("it stays", 3, x.claims());
    }

    /** The source 0 is written at 1 and 4, read at 2; the source 2 is written at 3, and so on. */
    private static void promise26ClaimsOfTheCache() {
        QueryHarbor x = new QueryHarbor();
        for (int store = 0; store < 3; store++) {
            x.setPace(store, 1, 60);
        }
        x.add(0, 1, 1, 1, 1);
        x.add(4, 1, 1, 1, 1);
        Setups.draft(x, 0);
        x.ask(0, 200);
        Checks.due("of now", 2, x.claims());
        x.add(2, 1, 1, 0, 0);
        x.change(0, 0, 1, 5);
        x.ask(200, 200);
        Checks.due("up to the next write of its source", 3, x.claims());
        Setups.draft(x, 0, 2);
        Checks.due("two seats", 1, x.ask(200, 200));
        Checks.due("the first one from the cache", 0, x.taken(0));
        Checks.due("both are right at 3", 3, x.claims());
        x.change(2, 1, 1, 7);
        x.pass(1);
        x.where(1, 1, SAME, 7);
        Checks.due("the scan of the source 2 is there still", 0, x.ask(200, 200));
        Checks.due("still at 3", 3, x.claims());
        Setups.draft(x, 0, 3);
        x.add(3, 1, 1, 0, 0);
        x.ask(200, 200);
        Checks.due("the source 3 is right from 6 on only", -1, x.claims());
        Checks.due("but whole", 0, x.missing());
        Checks.due("and answered", 1, x.answers());
    }

    private static void promise26ClaimsBetweenWrites() {
        QueryHarbor x = new QueryHarbor();
        x.setPace(0, 0, 60);
        x.setPace(1, 0, 60);
        x.add(0, 1, 1, 1, 1);
        Setups.draft(x, 0);
        x.ask(0, 200);
        x.change(0, 0, 1, 2);
        x.pass(1);
        Setups.draft(x, 1);
        x.ask(0, 200);
        x.add(1, 1, 1, 1, 1);
        Setups.draft(x, 0, 1);
        x.ask(200, 200);
        Checks.due("0 from 1 to 1, 1 from 0 to 2", 1, x.claims());
        x.pass(1);
        x.ask(1, 200);
        Checks.due("0 of now from 2 on, 1 from 0 to 2", 2, x.claims());
        x.pass(2);
        x.ask(1, 200);
        Checks.due("both of now", 3, x.claims());
        Setups.draft(x, 0, 2);
        x.link(0, 3, 1, 0);
        x.where(0, 0, SAME, 100);
        x.add(2, 1, 1, 0, 0);
        x.change(0, 0, 1, 3);
        x.pass(1);
        x.ask(0, 200);
        Checks.due("no keys", 11, x.taken(1));
        Checks.due("that of now", 5, x.claims());
    }

    /** An entry that is younger than a row of another seat allows. */
    private static void promise26ClaimsFromTheEntryOn() {
        QueryHarbor x = new QueryHarbor();
        x.setPace(0, 1, 60);
        x.setPace(1, 1, 60);
        x.add(0, 1, 1, 1, 1);
        Setups.draft(x, 0);
        x.ask(0, 200);
        Checks.due("from 1 on", 1, x.claims());
        x.change(0, 0, 1, 2);
        x.add(2, 1, 1, 0, 0);
        x.pass(1);
        Setups.draft(x, 2);
        x.ask(0, 200);
        Checks.due("from 3 on", 3, x.claims());
        x.pass(1);
        Setups.draft(x, 0, 2);
        x.ask(200, 200);
        Checks.due("0 from the cache", 0, x.taken(0));
        Checks.due("2 from the cache", 10, x.taken(1));
        Checks.due("1 to 1, and 3 to 3", -1, x.claims());
        Setups.draft(x, 0);
        x.ask(200, 200);
        Checks.due("what was asked before does not count", 1, x.claims());
    }

    private static void promise24ThreeSeats() {
        QueryHarbor x = new QueryHarbor();
        x.add(0, 1, 0, 0, 0);
        x.add(0, 2, 0, 0, 0);
        x.add(2, 1, 5, 0, 0);
        x.add(2, 2, 6, 0, 0);
        x.add(2, 3, 6, 0, 0);
        x.add(4, 9, 6, 1, 0);
        x.add(4, 8, 6, 2, 0);
        x.add(4, 7, 5, 2, 0);
        x.add(4, 6, 4, 1, 0);
        x.seat(0);
        x.seat(2);
        x.seat(4);
        x.out(0, 0);
        x.out(1, 0);
        x.out(2, 0);
        x.link(1, 1, 2, 1);
        x.link(0, 0, 2, 2);
        int[][] want = {{1, 2, 9}, {1, 3, 9}, {2, 1, 7}, {2, 2, 8}, {2, 3, 8}};
        Checks.due("matches", want.length, x.ask(0, 200));
        for (int row = 0; row < want.length; row++) {
            for (int column = 0; column < 3; column++) {
                Checks.due("match " + row + " " + column, want[row][column], x.answer(row, column));
            }
        }
        x.link(0, 0, 1, 0);
        Checks.due("all three links", 1, x.answersAnew());
        Checks.due("all three links", 1, x.ask(200, 200));
        Checks.due("the seat 1", 2, x.answer(0, 1));
        Checks.due("the seat 2", 8, x.answer(0, 2));
    }

    private static void promise27Cost() {
        QueryHarbor x = Setups.withRows(0, 3);
        Setups.addRows(x, 2, 3);
        Setups.addRows(x, 4, 3);
        Setups.draft(x, 0);
        x.ask(0, 200);
        Checks.due("ROWS: 5 and 3", 8, x.cost());
        Setups.draft(x, 2);
        x.ask(0, 200);
        Checks.due("KEYS: 1 and 3", 4, x.cost());
        Setups.draft(x, 4);
        x.fail(2, 1, false);
        x.ask(0, 200);
        Checks.due("DOCUMENTS: twice 3 and 6", 12, x.cost());
        x.ask(0, 200);
        Checks.due("the cache costs nothing", 0, x.cost());
        x.pass(1);
        Setups.draft(x, 0, 2, 4);
        x.ask(0, 200);
        Checks.due("all", 21, x.cost());
        Checks.due("of the stores", 3, x.attempts());
        Checks.due("of the stores", 9, x.shipped());
    }

    private static void dueShipped(String what, QueryHarbor x, int rows, int matches) {
        x.pass(1);
        Checks.due(what + ": rows", matches, x.ask(0, 200));
        Checks.due(what + ": shipped", rows, x.shipped());
    }

    private static void dueSent(int source, int column, int kind, int number, boolean sent) {
        QueryHarbor x = new QueryHarbor();
        Setups.addRows(x, source, 8);
        Setups.draft(x, source);
        x.where(0, column, kind, number);
        int matches = x.answersAnew();
        dueShipped("source " + source + " column " + column + " kind " + kind, x, sent ? matches : 8, matches);
        Checks.due("size is told by what is not sent", sent ? 10 : 8, x.size(source));
    }

    private static void promise27WhatIsSent() {
        for (int source = 0; source < 6; source++) {
            for (int column = 0; column < (source == 2 || source == 3 ? 2 : 4); column++) {
                boolean table = source < 2;
                boolean key = column == 0;
                boolean documents = source > 3;
                dueSent(source, column, SAME, 3, table || key || documents);
                dueSent(source, column, LESS, 3, table || key);
                dueSent(source, column, MORE, 3, table || key);
                dueSent(source, column, IS_NULL, 0, table);
                dueSent(source, column, IS_MISSING, 0, documents);
            }
        }
    }

    private static void promise28Attempts() {
        QueryHarbor x = Setups.withRows(0, 1);
        Setups.draft(x, 0, 0);
        x.fail(0, 4, false);
        x.ask(0, 200);
        Checks.due("three that fail, one that fails, one that does not", 5, x.attempts());
        x.ask(0, 200);
        Checks.due("none for the cache", 0, x.attempts());
        x.step(QueryHarbor.ADD, 4, 1, 1, 1, 1);
        x.pass(1);
        x.ask(0, 200);
        x.run();
        Checks.due("those of bundles do not count", 1, x.attempts());
    }

    private static void promise29Shipped() {
        QueryHarbor x = Setups.withRows(0, 5);
        Setups.draft(x, 0);
        x.where(0, 0, IS_MISSING, 0);
        x.where(0, 0, MORE, 1);
        Checks.due("ask", 0, x.ask(0, 200));
        Checks.due("what came, also what does not match", 3, x.shipped());
        x.ask(0, 200);
        Checks.due("those of the cache are left out", 0, x.shipped());
    }

    private static void promise30TakenByGuess() {
        QueryHarbor x = new QueryHarbor();
        Setups.draft(x, 0, 2, 4);
        x.where(2, 1, SAME, 1);
        x.where(1, 1, SAME, 1);
        x.where(1, 1, SAME, 2);
        x.ask(0, 200);
        Checks.due("half the size", 23, x.taken(0));
        Checks.due("of two alike the lower one", 3, x.taken(1));
        Checks.due("what is not sent does not halve", 13, x.taken(2));
        Checks.place("no more", () -> x.taken(3));
        Checks.place("none before", () -> x.taken(-1));
        x.clear();
        Checks.due("it stays", 23, x.taken(0));
        QueryHarbor y = Setups.withRows(4, 3);
        Setups.draft(y, 4);
        y.ask(0, 200);
        Setups.draft(y, 0, 4);
        y.where(0, 0, SAME, 1);
        y.where(0, 0, SAME, 1);
        y.pass(1);
        y.ask(0, 200);
        Checks.due("10 halved twice is 2, less than 3", 3, y.taken(0));
        Setups.draft(y, 0, 4);
        y.where(0, 0, SAME, 1);
        y.where(1, 0, SAME, 1);
        y.pass(1);
        y.ask(0, 200);
        Checks.due("3 halved is 1", 13, y.taken(0));
        Setups.draft(y, 1);
        y.ask(0, 200);
        Checks.due("the size 0", 0, y.size(1));
        Setups.draft(y, 4, 1);
        y.where(0, 0, SAME, 1);
        y.pass(1);
        y.ask(0, 200);
        Checks.due("a guess is at least 1", 3, y.taken(0));
    }

    private static void promise30TakenByLinks() {
        QueryHarbor x = new QueryHarbor();
        Setups.draft(x, 0, 2, 4);
        x.link(0, 0, 2, 0);
        x.where(0, 0, SAME, 1);
        x.where(0, 0, SAME, 1);
        x.where(1, 0, SAME, 1);
        x.ask(0, 200);
        Checks.due("the least", 3, x.taken(0));
        Checks.due("linked, though it is more", 21, x.taken(1));
        Checks.due("the rest", 13, x.taken(2));
        Setups.draft(x, 1, 3, 5);
        x.link(1, 0, 2, 0);
        x.link(0, 0, 2, 1);
        x.where(2, 0, SAME, 1);
        x.where(0, 0, SAME, 1);
        x.where(0, 0, SAME, 1);
        x.ask(0, 200);
        Checks.due("the least", 3, x.taken(0));
        Checks.due("linked with a lower one", 21, x.taken(1));
        Checks.due("linked with a higher one", 11, x.taken(2));
    }

    private static void promise30Bound() {
        QueryHarbor x = new QueryHarbor();
        x.add(0, 3, 0, 0, 0);
        x.add(0, 1, 0, 0, 0);
        x.add(0, 3, 0, 0, 0);
        x.add(0, NULL, 0, 0, 0);
        x.add(0, 2, 1, 0, 0);
        x.add(0, 50, 0, 0, 0);
        Setups.addRows(x, 4, 6);
        Setups.draft(x, 0, 4);
        x.out(1, 0);
        x.link(0, 0, 1, 0);
        x.where(0, 1, IS_MISSING, 0);
        Checks.due("no keys by the condition that is done here", 0, x.ask(0, 200));
        Checks.due("bound", 11, x.taken(1));
        Checks.due("no request", 1, x.attempts());
        Checks.due("whole", 0, x.missing());
        Setups.draft(x, 0, 4);
        x.out(1, 0);
        x.link(0, 0, 1, 0);
        x.where(0, 1, SAME, 0);
        x.where(1, 1, LESS, 3);
        x.pass(1);
        Checks.due("rows of the matches", 1, x.ask(0, 200));
        Checks.due("bound", 11, x.taken(1));
        Checks.due("one request for 1, 3, 50", 2, x.attempts());
        Checks.due("five rows, then 1 and 3", 7, x.shipped());
        Checks.due("5 and 5, 3 and 4", 17, x.cost());
        Checks.due("only one entry, by the scan", 2, x.entries());
        Checks.due("the row", 1, x.answer(0, 1));
    }

    /** The first link with a taken seat cannot be sent, so the second one is not looked at. */
    private static void promise30BoundByFirstLink() {
        QueryHarbor x = Setups.withRows(0, 2);
        Setups.addRows(x, 2, 2);
        Setups.draft(x, 0, 2);
        x.link(0, 1, 1, 1);
        x.link(0, 0, 1, 0);
        x.where(0, 0, SAME, 1);
        x.ask(0, 200);
        Checks.due("KEYS cannot do SAME for the value", 13, x.taken(1));
        Setups.draft(x, 0, 2);
        x.link(0, 0, 1, 0);
        x.link(0, 1, 1, 1);
        x.where(0, 0, SAME, 0);
        x.where(0, 0, SAME, 0);
        x.where(0, 0, SAME, 0);
        x.pass(1);
        x.ask(0, 200);
        Checks.due("it can for the key", 11, x.taken(1));
        Checks.due("the first link is forbidden", 23, takenLast(1));
        Checks.due("the second link is forbidden", 21, takenLast(0));
    }

    /** How the seat 2 is taken, whose first link is with a row of the source 1, the second one with the source 0. */
    private static int takenLast(int forbidden) {
        QueryHarbor x = Setups.withRows(0, 2);
        Setups.addRows(x, 1, 2);
        Setups.draft(x, 0, 1, 4);
        x.where(0, 0, SAME, 0);
        x.where(1, 0, SAME, 0);
        x.link(1, 0, 2, 0);
        x.link(0, 0, 2, 0);
        x.link(0, 0, 1, 0);
        x.forbid(forbidden, 2, true);
        x.ask(0, 200);
        return x.taken(2);
    }

    private static void promise30BoundInBatches() {
        QueryHarbor x = Setups.withRows(0, 9);
        Setups.addRows(x, 2, 12);
        for (int i = 0; i < 12; i++) {
            x.add(4, 12 - i, i, i / 4, 0);
        }
        Setups.draft(x, 0, 2);
        x.link(0, 0, 1, 0);
        x.setBounds(1, 20, 3);
        x.ask(0, 200);
        Checks.due("9 keys: 3 and 9 are more than 1 and 10", 13, x.taken(1));
        Setups.draft(x, 0, 2);
        x.link(0, 0, 1, 0);
        x.where(0, 0, LESS, 8);
        x.pass(1);
        x.ask(0, 200);
        Checks.due("8 keys: 2 and 8 are less than 1 and 10", 11, x.taken(1));
        Checks.due("two requests", 3, x.attempts());
        Checks.due("each is cut at three rows", 14, x.shipped());
        Checks.due("open", 2, x.missing());
        Checks.due("the rows of both", 6, x.answers());
        Checks.due("the first three", 2, x.answer(2, 0));
        Checks.due("the next three", 4, x.answer(3, 0));
        x.setBounds(1, 20, 12);
        x.fail(1, 1, false);
        x.pass(1);
        x.ask(0, 200);
        Checks.due("a failure of a batch", 4, x.attempts());
        Checks.due("what all costs", 13 + 3 + 8, x.cost());
        Checks.due("all", 8, x.answers());
        Setups.draft(x, 0, 4);
        x.out(1, 0);
        x.link(0, 0, 1, 1);
        x.where(0, 0, LESS, 5);
        x.pass(1);
        Checks.due("five keys", 5, x.ask(0, 200));
        Checks.due("two requests", 3, x.attempts());
        Checks.due("by the first seat", 12, x.answer(0, 1));
        Setups.draft(x, 4, 0);
        x.shape(40, false);
        x.link(0, 1, 1, 0);
        x.where(1, 0, LESS, 5);
        x.pass(1);
        x.ask(0, 200);
        Checks.due("the other one is bound", 1, x.taken(1));
        Checks.due("rows of both batches by their marks", 8, x.answer(0, 0));
        Checks.due("rows of both batches by their marks", 12, x.answer(4, 0));
    }

    /** The keys 9, 4, 2, 8, 1 and 4 again: the first four of them, as they rise, leave out 9. */
    private static void promise30KeysRise() {
        QueryHarbor x = new QueryHarbor();
        int[] keys = {9, 4, 2, 8, 1, 4, 9};
        for (int key : keys) {
            x.add(0, key, 0, 0, 0);
        }
        Setups.addRows(x, 2, 12);
        Setups.draft(x, 0, 2);
        x.out(1, 0);
        x.link(0, 0, 1, 0);
        x.setPace(1, 10, 0);
        Checks.due("one request", 5, x.ask(0, 1));
        Checks.due("attempts", 2, x.attempts());
        Checks.due("4, 2, 8, 1 and 4", 4, x.answer(0, 0));
        Checks.due("4, 2, 8, 1 and 4", 4, x.answer(4, 0));
        Checks.due("open", 2, x.missing());
        x.pass(1);
        Checks.due("two requests", 7, x.ask(0, 200));
        Checks.due("attempts", 3, x.attempts());
        Checks.due("each key once", 7 + 5, x.shipped());
        QueryHarbor z = new QueryHarbor();
        for (int key : new int[] {3, 3, 4, 5, 6, 3}) {
            z.add(0, key, 0, 0, 0);
        }
        Setups.draft(z, 0, 4);
        z.link(0, 0, 1, 0);
        z.ask(0, 200);
        Checks.due("the least key once, too", 2, z.attempts());
        QueryHarbor y = Setups.withRows(0, 5);
        Setups.addRows(y, 1, 9);
        Setups.draft(y, 1);
        y.ask(0, 200);
        Setups.draft(y, 0, 1);
        y.link(0, 0, 1, 0);
        y.where(0, 0, MORE, -1);
        y.pass(1);
        y.ask(0, 200);
        Checks.due("5 keys cost 10 and 5, a scan 5 and 9", 13, y.taken(1));
        y.where(0, 0, MORE, 0);
        y.pass(1);
        y.ask(0, 200);
        Checks.due("4 keys cost 5 and 4", 11, y.taken(1));
    }

    private static void promise30BindWithoutAnswer() {
        QueryHarbor x = Setups.withRows(0, 6);
        Setups.addRows(x, 4, 6);
        Setups.draft(x, 0, 4);
        x.link(0, 0, 1, 0);
        x.setPace(2, 10, 0);
        Checks.due("the second request is too late", 4, x.ask(0, 5));
        Checks.due("bound", 11, x.taken(1));
        Checks.due("open", 2, x.missing());
        Checks.due("attempts", 2, x.attempts());
        Checks.due("claims", -1, x.claims());
        x.fail(2, 3, false);
        x.pass(1);
        Checks.due("the first request fails", 0, x.ask(0, 200));
        Checks.due("no others follow, no switch", 11, x.taken(1));
        Checks.due("attempts", 4, x.attempts());
        Checks.due("cost", 11 + 9, x.cost());
        x.setBounds(2, 20, 0);
        x.pass(1);
        x.ask(0, 200);
        Checks.due("cut ones are followed", 3, x.attempts());
    }

    private static void promise30NotBound() {
        QueryHarbor x = Setups.withRows(0, 4);
        Setups.addRows(x, 2, 4);
        Setups.draft(x, 2);
        x.ask(0, 200);
        x.pass(1);
        Setups.draft(x, 0, 2);
        x.link(0, 0, 1, 0);
        x.where(0, 0, MORE, -1);
        x.where(0, 0, MORE, -1);
        x.ask(0, 200);
        Checks.due("1 and 4 are not less than 1 and 4", 13, x.taken(1));
        Setups.draft(x, 0, 2);
        x.link(0, 0, 1, 0);
        x.where(0, 0, MORE, 0);
        x.where(0, 0, MORE, 0);
        x.pass(1);
        x.ask(0, 200);
        Checks.due("1 and 3 are less", 11, x.taken(1));
        Setups.draft(x, 0, 2);
        x.where(0, 0, MORE, 0);
        x.where(0, 0, MORE, 0);
        x.pass(1);
        x.ask(0, 200);
        Checks.due("no link", 13, x.taken(1));
    }

    private static QueryHarbor withSwitch(int inFirstBatch) {
        QueryHarbor x = Setups.withRows(0, 5);
        for (int i = 0; i < 12; i++) {
            x.add(4, i, i < inFirstBatch ? i % 4 : 4, 0, 0);
        }
        Setups.draft(x, 0, 4);
        x.link(0, 0, 1, 1);
        return x;
    }

    private static void promise30Switched() {
        QueryHarbor x = withSwitch(9);
        Checks.due("all", 12, x.ask(0, 200));
        Checks.due("3 and 18 are less than 3 and 20", 11, x.taken(1));
        Checks.due("two requests", 3, x.attempts());
        Checks.due("cost", 10 + 6 + 24, x.cost());
        Checks.due("entries", 1, x.entries());
        QueryHarbor y = withSwitch(10);
        Checks.due("all", 12, y.ask(0, 200));
        Checks.due("3 and 20 are not", 12, y.taken(1));
        Checks.due("a request, and a scan", 3, y.attempts());
        Checks.due("what was dropped came, too", 5 + 10 + 12, y.shipped());
        Checks.due("cost", 10 + 23 + 27, y.cost());
        Checks.due("the scan makes an entry", 2, y.entries());
        Checks.due("the scan tells the size", 12, y.size(4));
        Checks.due("whole", 0, y.missing());
        QueryHarbor z = withSwitch(12);
        z.where(0, 0, LESS, 4);
        z.ask(0, 200);
        Checks.due("none behind the last request", 11, z.taken(1));
    }

    private static void promise30SwitchedAndOpen() {
        QueryHarbor x = withSwitch(10);
        x.setBounds(2, 20, 10);
        Checks.due("the scan is cut", 10, x.ask(0, 200));
        Checks.due("switched", 12, x.taken(1));
        Checks.due("open", 2, x.missing());
        Checks.due("no size", 10, x.size(4));
        Checks.due("no entry", 1, x.entries());
        QueryHarbor y = withSwitch(12);
        y.setBounds(2, 20, 10);
        y.where(1, 0, LESS, 50);
        Checks.due("the bind is cut, and the scan", 10, y.ask(0, 200));
        Checks.due("3 and 20 are more than 3 and 10", 13, y.taken(0));
        QueryHarbor z = withSwitch(12);
        z.where(1, 3, IS_NULL, 0);
        z.where(1, 0, MORE, 1);
        z.where(0, 0, LESS, 999);
        z.setBounds(2, 20, 12);
        z.fail(2, 2, false);
        z.ask(0, 200);
        Checks.due("five keys cost 16, a scan 13", 13, z.taken(1));
        QueryHarbor late = withSwitch(10);
        late.setPace(2, 10, 0);
        Checks.due("the scan is too late", 0, late.ask(0, 8));
        Checks.due("switched", 12, late.taken(1));
        Checks.due("open", 2, late.missing());
        Checks.due("what was dropped came", 15, late.shipped());
        Checks.due("and was paid", 33, late.cost());
    }

    private static void promise31Size() {
        QueryHarbor x = Setups.withRows(0, 5);
        Checks.place("no source", () -> x.size(6));
        Checks.place("no source", () -> x.size(-1));
        Setups.draft(x, 0);
        Checks.due("believed at first", 10, x.size(0));
        x.where(0, 0, LESS, 3);
        x.ask(0, 200);
        Checks.due("a condition that is sent", 10, x.size(0));
        Setups.draft(x, 0);
        x.fail(0, 3, false);
        x.ask(0, 200);
        Checks.due("no answer", 10, x.size(0));
        x.setBounds(0, 20, 4);
        x.ask(0, 200);
        Checks.due("cut", 10, x.size(0));
        x.setBounds(0, 20, 5);
        x.where(0, 0, IS_MISSING, 0);
        x.ask(0, 200);
        Checks.due("a condition that is not sent", 5, x.size(0));
        x.add(0, 1, 1, 1, 1);
        Checks.due("writes tell nothing", 5, x.size(0));
        x.ask(200, 200);
        Checks.due("cut", 5, x.size(0));
        x.setBounds(0, 20, 12);
        x.ask(200, 200);
        Checks.due("the latest one", 6, x.size(0));
        Checks.due("of another source", 10, x.size(1));
        Setups.draft(x, 5);
        x.ask(0, 200);
        Checks.due("none", 0, x.size(5));
    }

    private static void promise32EntriesAtMost() {
        QueryHarbor x = Setups.withRows(0, 3);
        for (int i = 0; i < 8; i++) {
            Setups.draft(x, 0);
            x.where(0, 0, MORE, 100 + i);
            x.pass(1);
            x.ask(0, 200);
            Checks.due("entries", Math.min(6, i + 1), x.entries());
        }
        for (int i = 7; i >= 2; i--) {
            Setups.draft(x, 0);
            x.where(0, 0, MORE, 100 + i);
            x.ask(200, 200);
            Checks.due("the last six are there", 0, x.taken(0));
        }
        Setups.draft(x, 0);
        x.where(0, 0, MORE, 101);
        x.ask(200, 200);
        Checks.due("the first ones are not", 3, x.taken(0));
        Setups.draft(x, 0);
        x.where(0, 0, MORE, 102);
        x.ask(200, 200);
        Checks.due("nor is that whose place was taken", 0, x.taken(0));
        QueryHarbor y = Setups.withRows(0, 1);
        y.setPace(0, 1, 60);
        Setups.draft(y, 0);
        for (int i = 0; i < 9; i++) {
            y.change(0, 0, 0, 50 + i);
            y.ask(200, 200);
            Checks.due("the last one made serves", i == 0 ? 50 : 49 + i, y.answer(0, 0));
            y.pass(1);
            y.ask(0, 200);
        }
    }

    private static void promise32EntriesServe() {
        QueryHarbor x = Setups.withRows(0, 3);
        Setups.draft(x, 0);
        x.ask(0, 200);
        x.pass(10);
        x.setPace(0, 1, 60);
        x.change(0, 1, 0, 50);
        x.ask(9, 200);
        Checks.due("too old", 3, x.taken(0));
        Checks.due("a second entry", 2, x.entries());
        x.pass(10);
        x.change(0, 1, 0, 60);
        x.ask(200, 200);
        Checks.due("served", 0, x.taken(0));
        Checks.due("by the entry made last", 50, x.answer(1, 0));
        Checks.due("nothing is made of it", 2, x.entries());
        Setups.draft(x, 0, 0, 1);
        x.ask(0, 200);
        Checks.due("the scan of a seat", 3, x.taken(0));
        Checks.due("serves another one in the same tick", 10, x.taken(1));
        Checks.due("but none of another source", 23, x.taken(2));
        x.setBounds(0, 20, 2);
        Setups.draft(x, 0);
        x.pass(1);
        x.ask(0, 200);
        Checks.due("cut", 4, x.entries());
        x.setBounds(0, 20, 12);
        x.fail(0, 3, false);
        x.ask(0, 200);
        Checks.due("without an answer", 4, x.entries());
    }

    /** Whether an entry that was made with a condition serves a seat with another one. */
    private static void dueServes(int kind, int number, int column, int asked, int askedNumber, boolean serves) {
        QueryHarbor x = Setups.withRows(0, 8);
        Setups.draft(x, 0);
        x.where(0, 0, kind, number);
        x.ask(0, 200);
        Setups.draft(x, 0);
        x.where(0, column, asked, askedNumber);
        int rows = x.ask(200, 200);
        String what = kind + " " + number + " for " + asked + " " + askedNumber;
        Checks.due(what, serves ? 0 : 3, x.taken(0));
        Checks.due(what + ": rows", x.answersAnew(), rows);
    }

    private static void promise32ServedByConditions() {
        dueServes(LESS, 5, 0, LESS, 5, true);
        dueServes(LESS, 5, 0, LESS, 4, true);
        dueServes(LESS, 5, 0, LESS, 6, false);
        dueServes(LESS, 5, 0, SAME, 4, true);
        dueServes(LESS, 5, 0, SAME, 5, false);
        dueServes(LESS, 5, 0, MORE, 3, false);
        dueServes(LESS, 5, 1, LESS, 5, false);
        dueServes(MORE, 5, 0, MORE, 5, true);
        dueServes(MORE, 5, 0, MORE, 6, true);
        dueServes(MORE, 5, 0, MORE, 4, false);
        dueServes(MORE, 5, 0, SAME, 6, true);
        dueServes(MORE, 5, 0, SAME, 5, false);
        dueServes(MORE, 5, 1, SAME, 6, false);
        dueServes(SAME, 5, 0, SAME, 5, true);
        dueServes(SAME, 5, 0, SAME, 4, false);
        dueServes(SAME, 5, 0, LESS, 5, false);
        dueServes(IS_NULL, 0, 0, IS_NULL, 0, true);
        dueServes(IS_NULL, 0, 1, IS_NULL, 0, false);
        dueServes(IS_NULL, 0, 0, SAME, 0, false);
        QueryHarbor x = Setups.withRows(2, 8);
        Setups.draft(x, 2);
        x.where(0, 0, LESS, 5);
        x.where(0, 0, MORE, 1);
        x.ask(0, 200);
        Setups.draft(x, 2);
        x.where(0, 0, LESS, 5);
        x.ask(200, 200);
        Checks.due("one of two conditions", 3, x.taken(0));
        Setups.draft(x, 2);
        x.where(0, 1, LESS, 2);
        x.where(0, 0, SAME, 3);
        Checks.due("both, by one", 0, x.ask(200, 200));
        Checks.due("both, by one", 0, x.taken(0));
        Setups.draft(x, 2);
        x.where(0, 1, LESS, 5);
        x.ask(200, 200);
        Checks.due("what is not sent gives nothing", 3, x.taken(0));
        Setups.draft(x, 4, 4);
        x.where(1, 0, LESS, 5);
        x.where(1, 0, MORE, 2);
        x.ask(0, 200);
        Checks.due("the other seat's conditions", 13, x.taken(0));
        Checks.due("give this one nothing", 3, x.taken(1));
    }

    /** Entries that are made in the place of others have nothing of these. */
    private static void promise32MadeAnew() {
        QueryHarbor x = Setups.withRows(0, 8);
        Setups.addRows(x, 1, 5);
        Setups.addRows(x, 3, 4);
        Setups.draft(x, 0);
        x.where(0, 0, LESS, 5);
        x.where(0, 1, MORE, 1);
        x.ask(0, 200);
        Setups.draft(x, 1);
        x.ask(0, 200);
        Setups.draft(x, 3);
        x.ask(0, 200);
        x.add(0, 9, 9, 9, 9);
        Checks.due("the first one is dropped", 2, x.entries());
        Setups.draft(x, 0);
        Checks.due("a new one", 9, x.ask(0, 200));
        Checks.due("three", 3, x.entries());
        dueCached(x, 1, 5);
        dueCached(x, 3, 4);
        dueCached(x, 0, 9);
        for (int i = 0; i < 6; i++) {
            Setups.draft(x, 2);
            x.where(0, 0, MORE, i);
            x.where(0, 0, LESS, i + 2);
            x.ask(0, 200);
        }
        Setups.draft(x, 5);
        x.ask(0, 200);
        Checks.due("one more takes the first place", 6, x.entries());
        dueCached(x, 5, 0);
        Setups.draft(x, 2);
        x.where(0, 0, SAME, 1);
        x.ask(200, 200);
        Checks.due("the first one is gone", 3, x.taken(0));
        QueryHarbor y = Setups.withRows(0, 8);
        Setups.draft(y, 0);
        y.where(0, 1, LESS, 5);
        y.ask(0, 200);
        Setups.draft(y, 0);
        y.where(0, 0, LESS, 5);
        y.ask(200, 200);
        Checks.due("of another column", 3, y.taken(0));
        Setups.draft(y, 0);
        y.where(0, 1, LESS, 3);
        y.ask(200, 200);
        Checks.due("of the same column", 0, y.taken(0));
    }

    private static void dueCached(QueryHarbor x, int source, int rows) {
        Setups.draft(x, source);
        Checks.due("rows of the source " + source, rows, x.ask(200, 200));
        Checks.due("cached: the source " + source, 0, x.taken(0));
    }

    private static void promise32LeasesOfStores() {
        for (int store = 0; store < 3; store++) {
            QueryHarbor x = new QueryHarbor();
            for (int source = 0; source < 6; source++) {
                Setups.draft(x, source);
                x.ask(0, 200);
            }
            Checks.due("all", 6, x.entries());
            x.pass(10);
            x.setLease(store, 3);
            Checks.due("those of the store are dropped", 4, x.entries());
            Setups.draft(x, 2 * store + 1);
            x.ask(200, 200);
            Checks.due("dropped", 3, x.taken(0));
            Setups.draft(x, (2 * store + 3) % 6);
            x.ask(200, 200);
            Checks.due("not dropped", 0, x.taken(0));
        }
    }

    private static void promise32Messages() {
        QueryHarbor x = Setups.withRows(0, 3);
        Setups.addRows(x, 1, 3);
        x.setPace(0, 1, 10);
        Setups.draft(x, 0, 1);
        x.ask(0, 200);
        x.pass(8);
        x.change(0, 0, 0, 9);
        x.pass(1);
        x.where(0, 0, SAME, 9);
        x.ask(0, 200);
        Checks.due("four entries", 4, x.entries());
        x.pass(6);
        Checks.due("one tick before", 4, x.entries());
        x.pass(1);
        Checks.due("those of its source, made before the write", 3, x.entries());
        x.setPace(0, 1, 0);
        x.remove(0, 0);
        Checks.due("at once, but those of the other source stay", 2, x.entries());
        x.add(1, 0, 0, 0, 0);
        Checks.due("adding sends one, too", 0, x.entries());
    }

    /** An entry is dropped while a query waits for a store. */
    private static void promise32DroppedInTheMiddle() {
        QueryHarbor x = Setups.withRows(0, 3);
        Setups.addRows(x, 4, 2);
        x.setPace(0, 1, 4);
        Setups.draft(x, 0);
        x.ask(0, 200);
        x.change(0, 0, 0, 9);
        x.setPace(2, 3, 0);
        Setups.draft(x, 4, 0);
        x.where(0, 0, MORE, -1);
        x.where(0, 0, MORE, -1);
        x.where(0, 0, MORE, -1);
        x.ask(200, 200);
        Checks.due("the time has not come", 10, x.taken(1));
        x.pass(1);
        Checks.due("it has come", 1, x.entries());
        QueryHarbor y = Setups.withRows(0, 3);
        Setups.addRows(y, 4, 2);
        Setups.draft(y, 0);
        y.ask(0, 200);
        y.setLease(0, 2);
        y.setPace(2, 3, 0);
        Setups.draft(y, 4, 0);
        y.where(0, 0, MORE, -1);
        y.where(0, 0, MORE, -1);
        y.where(0, 0, MORE, -1);
        y.ask(200, 200);
        Checks.due("the lease has ended", 13, y.taken(1));
    }
}
