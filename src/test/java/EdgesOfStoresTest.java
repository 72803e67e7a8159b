/**
 * The sentences of the document's head, 'Terms', that name an edge, up to what stores can do: stores and sources,
 * queries, attempts, windows, deadlines and caps. Each has a test of its own here, in their order.
 */
public final class EdgesOfStoresTest {
    private static final int NULL = QueryHarbor.NULL;
    private static final int MISSING = QueryHarbor.MISSING;
    private static final int SAME = QueryHarbor.SAME;
    private static final int LESS = QueryHarbor.LESS;
    private static final int MORE = QueryHarbor.MORE;
    private static final int IS_NULL = QueryHarbor.IS_NULL;
    private static final int IS_MISSING = QueryHarbor.IS_MISSING;
    /** Cells of three seats with two rows each: the seat, the row, the column. */
    private static final int[][][] CELLS = {{{1, 2}, {2, 2}}, {{1, 3}, {2, 1}}, {{3, 1}, {2, 3}}};

    public static void main(String[] args) {
        storesAndSources();
        queries();
        whatStoresCanDo();
        Checks.end("EdgesOfStoresTest");
    }

    // ---- stores and sources

    private static void storesAndSources() {
        atMostTwelveRowsAtOneTime();
        valuesBecome0Or99();
        eachTimeIsALoss();
        marksAreNotUsedAnew();
        rowsAreInTheOrderOfTheirMarks();
        alsoAChangeToWhatTheCellHas();
    }

    /** "A source has rows, at most 12 at one time." */
    private static void atMostTwelveRowsAtOneTime() {
        for (int source = 0; source < 6; source++) {
            QueryHarbor x = Setups.withRows(source, 12);
            int s = source;
            for (int i = 0; i < 20; i++) {
                int key = 20 + i;
                Checks.state("full", () -> x.add(s, key, 0, 0, 0));
                Checks.due("room for one", 11, x.remove(s, s < 2 || i < 12 ? i : 8 + i));
                Checks.due("added", s < 2 ? 12 + i : key, x.add(s, key, 0, 0, 0));
            }
            Setups.draft(x, source);
            Checks.due("twelve rows", 12, x.ask(0, 200));
            Checks.due("the last one", 39, x.answer(11, 0));
        }
    }

    /** "A number that is put into KEYS as a value becomes 0, if it is below 0, and 99, if it is above 99". */
    private static void valuesBecome0Or99() {
        int[][] values = {{-999, 0}, {-1, 0}, {0, 0}, {1, 1}, {98, 98}, {99, 99}, {100, 99}, {999, 99}, {NULL, NULL}};
        for (int[] value : values) {
            for (int source = 2; source < 4; source++) {
                QueryHarbor x = new QueryHarbor();
                x.add(source, 0, value[0], 0, 0);
                Checks.due("added: " + value[0], value[1], x.cell(source, 0, 1));
                x.add(source, 99, 50, 0, 0);
                x.change(source, 99, 1, value[0]);
                Checks.due("changed: " + value[0], value[1], x.cell(source, 99, 1));
                Checks.due("losses: " + value[0], value[0] == value[1] ? 0 : 2, x.losses());
            }
            QueryHarbor y = new QueryHarbor();
            y.add(0, value[0], value[0], 0, 0);
            y.add(4, 1, value[0], 0, 0);
            Checks.due("not in ROWS", value[0], y.cell(0, 0, 1));
            Checks.due("not in DOCUMENTS", value[0], y.cell(4, 1, 1));
            Checks.due("no losses there", 0, y.losses());
        }
    }

    /** "each time that this makes it another one is a loss". */
    private static void eachTimeIsALoss() {
        QueryHarbor x = new QueryHarbor();
        x.add(2, 1, 0, 0, 0);
        for (int i = 1; i <= 5; i++) {
            x.change(2, 1, 1, -i);
            Checks.due("it had 0 before, and has it now", i, x.losses());
        }
    }

    /** "in tables numbers from 0 on, as they are added, which are not used anew". */
    private static void marksAreNotUsedAnew() {
        for (int table = 0; table < 2; table++) {
            QueryHarbor x = new QueryHarbor();
            int t = table;
            for (int mark = 0; mark < 60; mark++) {
                Checks.due("mark", mark, x.add(t, 1, 1, 1, 1));
                if (mark % 12 == 11) {
                    emptyTable(x, t, mark);
                }
            }
            Checks.due("empty", 0, x.count(t));
            Checks.state("sixty were added", () -> x.add(t, 1, 1, 1, 1));
        }
    }

    private static void emptyTable(QueryHarbor x, int table, int last) {
        for (int mark = last - 11; mark <= last; mark++) {
            x.remove(table, mark);
        }
    }

    /** "Rows of a source are in the order of their marks." */
    private static void rowsAreInTheOrderOfTheirMarks() {
        int[] keys = {50, 99, 0, 7, 98, 1};
        int[] ordered = {0, 1, 7, 50, 98, 99};
        for (int source = 2; source < 6; source++) {
            QueryHarbor x = new QueryHarbor();
            for (int key : keys) {
                x.add(source, key, 0, 0, 0);
            }
            Setups.draft(x, source);
            x.ask(0, 200);
            for (int i = 0; i < ordered.length; i++) {
                Checks.due("anew", ordered[i], x.answerAnew(i, 0));
                Checks.due("asked", ordered[i], x.answer(i, 0));
            }
            x.setBounds(source / 2, 20, 2);
            x.pass(1);
            x.ask(0, 200);
            Checks.due("a cut answer has the first ones", 1, x.answer(1, 0));
        }
        QueryHarbor y = new QueryHarbor();
        y.add(0, 9, 0, 0, 0);
        y.add(0, 8, 0, 0, 0);
        Setups.draft(y, 0);
        Checks.due("not of their cells", 9, y.answerAnew(0, 0));
    }

    /** "(also a change to what the cell has) makes the moment 1 more; it is 0 at first". */
    private static void alsoAChangeToWhatTheCellHas() {
        QueryHarbor x = new QueryHarbor();
        Checks.due("at first", 0, x.moment());
        x.add(2, 1, 100, 0, 0);
        Setups.draft(x, 2);
        x.ask(0, 200);
        x.change(2, 1, 1, 99);
        Checks.due("to what it has", 2, x.moment());
        Checks.due("a message is sent", 0, x.entries());
        x.change(2, 1, 1, 500);
        Checks.due("to what becomes what it has", 3, x.moment());
        Checks.due("a loss", 2, x.losses());
    }

    // ---- queries

    private static void queries() {
        bothCellsAreTheSameNumber();
        lessAndMoreAtTheirEdges();
        isNullAndIsMissing();
        allLinksHold();
        matchesAreOrderedBySeats();
        asManyAsTheLimitTells();
        oneGroupForEachDifferentCell();
        firstForMissingThenForNull();
        theSumOfTheNumbers();
        groupsAsManyAsTheLimitTells();
    }

    /** "it holds for two rows if both cells are the same number". */
    private static void bothCellsAreTheSameNumber() {
        int[] cells = {-999, 0, 999, NULL, MISSING};
        for (int a : cells) {
            for (int b : cells) {
                QueryHarbor x = new QueryHarbor();
                x.add(4, 1, a, 0, 0);
                x.add(5, 1, b, 0, 0);
                Setups.draft(x, 4, 5);
                x.link(0, 1, 1, 1);
                int due = a == b && a != NULL && a != MISSING ? 1 : 0;
                Checks.due("link of " + a + " and " + b, due, x.answersAnew());
                Checks.due("asked: link of " + a + " and " + b, due, x.ask(0, 200));
            }
        }
    }

    private static int whereHolds(int source, int cell, int kind, int number) {
        QueryHarbor x = new QueryHarbor();
        x.add(source, 50, cell, 0, 0);
        Setups.draft(x, source);
        x.where(0, 1, kind, number);
        int holds = x.ask(0, 200);
        Checks.due("as all data: " + cell + " kind " + kind + " " + number, x.answersAnew(), holds);
        return holds;
    }

    /** "SAME, LESS and MORE hold for a cell that is a number which is that one, less, or more". */
    private static void lessAndMoreAtTheirEdges() {
        int[] numbers = {-999, -998, -1, 0, 1, 998, 999};
        for (int source : new int[] {0, 4}) {
            for (int number : numbers) {
                for (int cell : numbers) {
                    String what = "source " + source + ": " + cell + " and " + number;
                    Checks.due("SAME, " + what, cell == number ? 1 : 0, whereHolds(source, cell, SAME, number));
                    Checks.due("LESS, " + what, cell < number ? 1 : 0, whereHolds(source, cell, LESS, number));
                    Checks.due("MORE, " + what, cell > number ? 1 : 0, whereHolds(source, cell, MORE, number));
                }
                Checks.due("NULL is not less", 0, whereHolds(source, NULL, LESS, number));
                Checks.due("NULL is not more", 0, whereHolds(source, NULL, MORE, number));
                Checks.due("NULL is not the same", 0, whereHolds(source, NULL, SAME, number));
                Checks.due("MISSING is not less", 0, whereHolds(4, MISSING, LESS, number));
                Checks.due("MISSING is not more", 0, whereHolds(4, MISSING, MORE, number));
                Checks.due("MISSING is not the same", 0, whereHolds(4, MISSING, SAME, number));
            }
        }
    }

    /** "IS_NULL for NULL; IS_MISSING for MISSING"; "IS_NULL is not done there", in DOCUMENTS. */
    private static void isNullAndIsMissing() {
        for (int source = 0; source < 6; source++) {
            Checks.due("IS_NULL for NULL", 1, whereHolds(source, NULL, IS_NULL, 0));
            Checks.due("IS_NULL for 0", 0, whereHolds(source, 0, IS_NULL, 0));
            Checks.due("IS_MISSING for NULL", 0, whereHolds(source, NULL, IS_MISSING, 0));
            Checks.due("IS_MISSING for 0", 0, whereHolds(source, 0, IS_MISSING, 0));
        }
        Checks.due("IS_NULL for MISSING", 0, whereHolds(4, MISSING, IS_NULL, 0));
        Checks.due("IS_MISSING for MISSING", 1, whereHolds(5, MISSING, IS_MISSING, 0));
    }

    /** A seat, its column, another seat, and its column: all links that there can be between the first columns. */
    private static int[] linkOf(int number) {
        int seat = number / 4 == 2 ? 1 : 0;
        int other = number / 4 == 0 ? 1 : 2;
        return new int[] {seat, number % 2, other, number / 2 % 2};
    }

    /** "so that all links and conditions hold": each choice of links, in each order. */
    private static void allLinksHold() {
        for (int a = 0; a < 12; a++) {
            for (int b = 0; b < 12; b++) {
                for (int c = 0; c < 12; c++) {
                    dueLinked(linkOf(a), linkOf(b), linkOf(c));
                }
            }
        }
    }

    private static void dueLinked(int[]... links) {
        QueryHarbor x = new QueryHarbor();
        int[] sources = {0, 4, 1};
        Setups.draft(x, sources);
        for (int seat = 0; seat < 3; seat++) {
            for (int[] row : CELLS[seat]) {
                x.add(sources[seat], row[0], row[1], 0, 0);
            }
        }
        for (int[] link : links) {
            x.link(link[0], link[1], link[2], link[3]);
        }
        int matches = 0;
        for (int choice = 0; choice < 8; choice++) {
            boolean hold = true;
            for (int[] link : links) {
                hold &= cellOf(choice, link[0], link[1]) == cellOf(choice, link[2], link[3]);
            }
            matches += hold ? 1 : 0;
        }
        Checks.due("matches of all data", matches, x.answersAnew());
        Checks.due("matches", matches, x.ask(0, 200));
    }

    /** A choice has a bit for each seat, which tells its row. */
    private static int cellOf(int choice, int seat, int column) {
        return CELLS[seat][choice >> seat & 1][column];
    }

    /** "Matches are ordered by their rows of the seat 0, then of the seat 1, then of the seat 2." */
    private static void matchesAreOrderedBySeats() {
        QueryHarbor x = Setups.withRows(0, 2);
        Setups.addRows(x, 2, 2);
        Setups.addRows(x, 4, 2);
        Setups.draft(x, 0, 2, 4);
        x.out(1, 0);
        x.out(2, 0);
        x.where(2, 0, LESS, 50);
        x.where(2, 0, LESS, 51);
        x.where(1, 0, LESS, 50);
        Checks.due("all", 8, x.ask(0, 200));
        Checks.due("the seat 2 is taken first", 23, x.taken(0));
        Checks.due("the seat 0 is taken last", 3, x.taken(2));
        for (int row = 0; row < 8; row++) {
            Checks.due("seat 0 of " + row, row / 4, x.answer(row, 0));
            Checks.due("seat 1 of " + row, row / 2 % 2, x.answer(row, 1));
            Checks.due("seat 2 of " + row, row % 2, x.answer(row, 2));
        }
    }

    /** "the first ones, as many as the limit tells, 40 at first". */
    private static void asManyAsTheLimitTells() {
        QueryHarbor x = Setups.withRows(0, 12);
        Setups.addRows(x, 1, 12);
        Setups.draft(x, 0, 1);
        x.out(1, 0);
        Checks.due("40 of 144", 40, x.ask(0, 200));
        Checks.due("the fortieth", 3, x.answer(39, 0));
        Checks.due("the fortieth", 3, x.answer(39, 1));
        x.where(0, 0, LESS, 4);
        x.where(1, 0, LESS, 10);
        Checks.due("40 of 40", 40, x.ask(200, 200));
        x.where(1, 0, MORE, 0);
        Checks.due("36 of 36", 36, x.ask(200, 200));
        x.shape(36, false);
        Checks.due("as many as there are", 36, x.ask(200, 200));
        x.shape(35, false);
        Checks.due("one less", 35, x.ask(200, 200));
        Checks.due("whole all the same", 0, x.missing());
        Checks.due("and claimed", 24, x.claims());
        x.shape(1, false);
        Checks.due("one", 1, x.ask(200, 200));
        Checks.due("the first one", 1, x.answer(0, 1));
    }

    /** "it has for each different cell of the first output a row with that, how many matches have it". */
    private static void oneGroupForEachDifferentCell() {
        QueryHarbor x = Setups.withRows(0, 12);
        Setups.addRows(x, 1, 12);
        Setups.addRows(x, 2, 12);
        Setups.draft(x, 0, 1, 2);
        x.shape(40, true);
        Checks.due("twelve groups of 1728 matches", 12, x.ask(0, 200));
        for (int row = 0; row < 12; row++) {
            Checks.due("cell", row, x.answer(row, 0));
            Checks.due("matches", 144, x.answer(row, 1));
            Checks.due("sum", 144 * row, x.answer(row, 2));
        }
    }

    /** "first for MISSING, then for NULL, then for rising numbers", in whatever order they come. */
    private static void firstForMissingThenForNull() {
        int[][] orders = {{0, 1, 2, 3, 4}, {4, 3, 2, 1, 0}, {1, 0, 4, 2, 3}, {2, 1, 0, 3, 4}, {3, 0, 1, 4, 2}};
        int[] cells = {MISSING, NULL, -999, -998, 999};
        for (int[] order : orders) {
            QueryHarbor x = new QueryHarbor();
            for (int i = 0; i < 10; i++) {
                x.add(4, i, cells[order[i % 5]], 0, 0);
            }
            x.seat(4);
            x.out(0, 1);
            x.shape(40, true);
            Checks.due("groups", 5, x.ask(0, 200));
            for (int i = 0; i < 5; i++) {
                Checks.due("group " + i, cells[i], x.answer(i, 0));
                Checks.due("matches of group " + i, 2, x.answer(i, 1));
                Checks.due("anew: group " + i, cells[i], x.answerAnew(i, 0));
            }
        }
    }

    /** "and the sum of the numbers in the last output of these". */
    private static void theSumOfTheNumbers() {
        QueryHarbor x = new QueryHarbor();
        int[][] rows = {{1, 999}, {1, 999}, {1, NULL}, {2, MISSING}, {2, NULL}, {3, -999}, {3, 999}, {4, -999}};
        for (int i = 0; i < rows.length; i++) {
            x.add(5, i, rows[i][0], 500, rows[i][1]);
        }
        x.seat(5);
        x.out(0, 1);
        x.out(0, 2);
        x.out(0, 3);
        x.shape(40, true);
        Checks.due("groups", 4, x.ask(0, 200));
        int[] sums = {1998, 0, 0, -999};
        int[] matches = {3, 2, 2, 1};
        for (int i = 0; i < 4; i++) {
            Checks.due("matches", matches[i], x.answer(i, 1));
            Checks.due("sum", sums[i], x.answer(i, 2));
        }
    }

    /** "also as many as the limit tells": groups, not matches. */
    private static void groupsAsManyAsTheLimitTells() {
        QueryHarbor x = Setups.withRows(4, 12);
        x.change(4, 11, 1, MISSING);
        x.change(4, 10, 1, 0);
        x.seat(4);
        x.out(0, 1);
        x.out(0, 0);
        for (int limit = 1; limit <= 12; limit++) {
            x.shape(limit, true);
            Checks.due("limit " + limit, Math.min(limit, 11), x.ask(200, 200));
            Checks.due("the first one is that of the last row", MISSING, x.answer(0, 0));
            Checks.due("with its sum", 11, x.answer(0, 2));
        }
        x.shape(2, true);
        x.ask(200, 200);
        Checks.due("all its matches", 2, x.answer(1, 1));
        Checks.due("also the one of a late row", 10, x.answer(1, 2));
    }

    // ---- what stores can do

    private static void whatStoresCanDo() {
        anAttemptAndUpToTwoMore();
        onTheBeginningOfTheNextWindow();
        asManyAsTheQuotaOrMore();
        windowsAreCountedByStore();
        moreTicksThanItsDeadline();
        theTimeOfTheWindowCountsForTheDeadline();
        atMostAsManyAsTheCap();
        feesAndFreights();
    }

    /** "A request has an attempt, and up to two more, as long as attempts fail." */
    private static void anAttemptAndUpToTwoMore() {
        for (int failures = 0; failures <= 20; failures++) {
            QueryHarbor x = Setups.withRows(2, 1);
            Setups.draft(x, 2);
            x.fail(1, failures, true);
            Checks.due(failures + " to fail: rows", failures < 3 ? 1 : 0, x.ask(0, 200));
            Checks.due(failures + " to fail: attempts", Math.min(3, failures + 1), x.attempts());
            Checks.due(failures + " to fail: open", failures < 3 ? 0 : 1, x.missing());
            Checks.due(failures + " to fail: entries", failures < 3 ? 1 : 0, x.entries());
            Checks.due(failures + " to fail: left", Math.max(0, failures - 3), x.fail(1, 0, false));
        }
    }

    /** A query is asked at the tick, the store's only attempt of the window having been made; the tick it begins at. */
    private static int beginsAt(int tick) {
        QueryHarbor x = Setups.withRows(0, 1);
        x.setPace(0, 0, 0);
        x.setBounds(0, 1, 12);
        Setups.draft(x, 0);
        int window = tick / 10 * 10;
        if (window > 0) {
            x.pass(window);
        }
        x.where(0, 0, SAME, 5);
        x.ask(0, 200);
        Checks.due("at once", window, x.now());
        if (tick > window) {
            x.pass(tick - window);
        }
        Setups.draft(x, 0);
        x.ask(0, 200);
        return x.now();
    }

    /** "the time goes on to the beginning of the next window; windows are 10 ticks long, the first one begins at 0". */
    private static void onTheBeginningOfTheNextWindow() {
        for (int tick = 0; tick < 40; tick++) {
            Checks.due("asked at " + tick, tick / 10 * 10 + 10, beginsAt(tick));
        }
        QueryHarbor x = Setups.withRows(0, 1);
        x.setBounds(0, 1, 12);
        Setups.draft(x, 0);
        x.pass(9);
        x.ask(0, 200);
        Checks.due("its attempt is that of the window 0", 10, x.now());
        x.pass(1);
        x.ask(0, 200);
        Checks.due("so the window 10 has room", 12, x.now());
    }

    /** "as many attempts in this window as its quota allows, or more". */
    private static void asManyAsTheQuotaOrMore() {
        for (int quota = 1; quota <= 20; quota++) {
            QueryHarbor x = Setups.withRows(4, 1);
            x.setPace(2, 0, 60);
            x.setBounds(2, quota, 12);
            for (int i = 0; i < quota; i++) {
                Setups.draft(x, 4);
                x.where(0, 0, LESS, 10 + i);
                x.ask(200, 200);
                Checks.due("as many as the quota", 0, x.now());
                x.change(4, 0, 1, i);
            }
            Setups.draft(x, 4);
            x.setBounds(2, Math.max(1, quota - 3), 12);
            x.ask(200, 200);
            Checks.due("one more than the quota " + quota, 10, x.now());
        }
        QueryHarbor y = Setups.withRows(4, 1);
        y.setPace(2, 0, 0);
        y.setBounds(2, 2, 12);
        Setups.draft(y, 4);
        y.fail(2, 2, false);
        y.ask(0, 200);
        Checks.due("attempts of one request", 10, y.now());
        Checks.due("three", 3, y.attempts());
    }

    /** "If the store had as many attempts": each store by itself, those of bundles as well. */
    private static void windowsAreCountedByStore() {
        QueryHarbor x = new QueryHarbor();
        for (int store = 0; store < 3; store++) {
            x.setPace(store, 0, 0);
            x.setBounds(store, 1, 12);
        }
        Setups.draft(x, 0, 2, 4);
        x.ask(0, 200);
        Checks.due("one attempt of each", 0, x.now());
        x.step(QueryHarbor.ADD, 5, 1, 1, 1, 1);
        x.run();
        Checks.due("a step waits, too", 10, x.now());
        Setups.draft(x, 4);
        x.ask(0, 200);
        Checks.due("a query waits for what a bundle has used", 20, x.now());
        Setups.draft(x, 1);
        x.ask(0, 200);
        Checks.due("another store does not wait", 20, x.now());
    }

    /** "by now more ticks have gone since this was asked than its deadline". */
    private static void moreTicksThanItsDeadline() {
        for (int deadline = 0; deadline <= 8; deadline++) {
            QueryHarbor x = Setups.withRows(0, 1);
            Setups.addRows(x, 2, 1);
            x.setPace(0, 4, 0);
            Setups.draft(x, 0, 2);
            x.pass(7);
            Checks.due("deadline " + deadline, deadline < 4 ? 0 : 1, x.ask(0, deadline));
            Checks.due("the second seat, deadline " + deadline, deadline < 4 ? 2 : 0, x.missing());
            Checks.due("attempts, deadline " + deadline, deadline < 4 ? 1 : 2, x.attempts());
        }
        QueryHarbor y = Setups.withRows(0, 1);
        y.setPace(0, 30, 0);
        Setups.draft(y, 0);
        Checks.due("what comes later is taken", 1, y.ask(0, 0));
        Checks.due("whole", 0, y.missing());
        Checks.due("as the attempt was in time", 30, y.now());
    }

    /** "the time goes on to the beginning of the next window", and then the deadline is looked at. */
    private static void theTimeOfTheWindowCountsForTheDeadline() {
        for (int deadline = 0; deadline <= 12; deadline++) {
            QueryHarbor x = Setups.withRows(0, 1);
            x.setBounds(0, 1, 12);
            Setups.draft(x, 0);
            x.ask(0, 0);
            x.pass(1);
            Checks.due("8 ticks, deadline " + deadline, deadline < 8 ? 0 : 1, x.ask(0, deadline));
            Checks.due("now, deadline " + deadline, deadline < 8 ? 10 : 11, x.now());
            Checks.due("cost, deadline " + deadline, deadline < 8 ? 0 : 6, x.cost());
        }
    }

    /** "but at most as many as the cap of the store; if there are more, it is cut". */
    private static void atMostAsManyAsTheCap() {
        for (int source = 0; source < 6; source++) {
            for (int rows = 0; rows <= 12; rows += 4) {
                for (int cap = 0; cap <= 12; cap++) {
                    QueryHarbor x = Setups.withRows(source, rows);
                    x.setBounds(source / 2, 20, cap);
                    Setups.draft(x, source);
                    String what = rows + " rows, cap " + cap;
                    Checks.due(what, Math.min(rows, cap), x.ask(0, 200));
                    Checks.due(what + ": shipped", Math.min(rows, cap), x.shipped());
                    Checks.due(what + ": open", rows > cap ? 1 : 0, x.missing());
                    Checks.due(what + ": entries", rows > cap ? 0 : 1, x.entries());
                    Checks.due(what + ": size", rows > cap ? 10 : rows, x.size(source));
                    Checks.due(what + ": claims", rows > cap ? -1 : rows, x.claims());
                }
            }
        }
    }

    /** "5 and 1 for ROWS, 1 and 1 for KEYS, 3 and 2 for DOCUMENTS". */
    private static void feesAndFreights() {
        int[] fees = {5, 1, 3};
        int[] freights = {1, 1, 2};
        for (int source = 0; source < 6; source++) {
            for (int failures = 0; failures <= 3; failures++) {
                QueryHarbor x = Setups.withRows(source, 12);
                int store = source / 2;
                x.fail(store, failures, false);
                Setups.draft(x, source);
                x.ask(0, 200);
                int due = failures < 3 ? (failures + 1) * fees[store] + 12 * freights[store] : 3 * fees[store];
                Checks.due("cost of " + source + ", " + failures + " failing", due, x.cost());
            }
        }
    }
}
