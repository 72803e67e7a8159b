/** The sentences of the document on bundles that name an edge; each has a test of its own here, in their order. */
public final class EdgesOfBundlesTest {
    private static final int NULL = QueryHarbor.NULL;
    private static final int MISSING = QueryHarbor.MISSING;
    private static final int ADD = QueryHarbor.ADD;
    private static final int CHANGE = QueryHarbor.CHANGE;
    private static final int REMOVE = QueryHarbor.REMOVE;

    public static void main(String[] args) {
        stepsAtMostFour();
        anAddingAChangingOrARemoving();
        eachStepIsARequestInOrder();
        theFirstAttemptThatDoesNotFailDoesIt();
        neverDoneTwice();
        othersFollowAsEver();
        lookedAtWhenItWouldBeDone();
        itCannotIfItWouldThrow();
        thePlaceThatEndedIt();
        thatOneIncluded();
        theLastOneFirst();
        comesBackWithItsMark();
        comesBackToAFullSource();
        doneAtOnceWithoutRequests();
        eachByAWrite();
        lossesCountWhenDone();
        itIsEmptyThen();
        Checks.end("EdgesOfBundlesTest");
    }

    /** "A bundle has steps, at most 4". */
    private static void stepsAtMostFour() {
        for (int steps = 1; steps <= 4; steps++) {
            QueryHarbor x = new QueryHarbor();
            for (int i = 0; i < steps; i++) {
                Checks.due("steps", i + 1, x.step(ADD, 3, i, i, 0, 0));
            }
            Checks.due("run", -1, x.run());
            Checks.due("all were done", steps, x.count(3));
            Checks.due("a tick for each", steps, x.now());
        }
    }

    /** "each an adding, a changing or a removing of a row", in each source and column. */
    private static void anAddingAChangingOrARemoving() {
        for (int source = 0; source < 6; source++) {
            boolean keys = source == 2 || source == 3;
            QueryHarbor x = Setups.withRows(source, 2);
            x.step(ADD, source, 31, 32, keys ? 0 : 33, keys ? 0 : 34);
            int mark = source < 2 ? 2 : 31;
            for (int column = 1; column < (keys ? 2 : 4); column++) {
                x.step(CHANGE, source, 1, column, 60 + column, 0);
            }
            Checks.due("run", -1, x.run());
            Checks.due("one more", 3, x.count(source));
            for (int column = 0; column < (keys ? 2 : 4); column++) {
                Checks.due("added: column " + column, 31 + column, x.cell(source, mark, column));
                Checks.due("changed: column " + column, column == 0 ? 1 : 60 + column, x.cell(source, 1, column));
            }
            x.step(REMOVE, source, 0, 0, 0, 0);
            Checks.due("run", -1, x.run());
            Checks.due("one less", 2, x.count(source));
            Setups.draft(x, source);
            Checks.due("the first one now", 1, x.answerAnew(0, 0));
        }
    }

    /** "each step is a request to the store of its source, in order". */
    private static void eachStepIsARequestInOrder() {
        QueryHarbor x = new QueryHarbor();
        x.setPace(0, 7, 0);
        x.setPace(1, 0, 0);
        x.setPace(2, 20, 0);
        x.step(ADD, 0, 1, 1, 1, 1);
        x.step(ADD, 2, 1, 1, 0, 0);
        x.step(ADD, 4, 1, 1, 1, 1);
        x.step(CHANGE, 2, 1, 1, 5, 0);
        Checks.due("run", -1, x.run());
        Checks.due("the delays of their stores", 27, x.now());
        x.fail(2, 3, false);
        x.step(CHANGE, 2, 1, 1, 6, 0);
        x.step(CHANGE, 4, 1, 1, 6, 0);
        x.step(CHANGE, 0, 0, 1, 6, 0);
        Checks.due("the second one", 1, x.run());
        Checks.due("the third one was not asked for", 27 + 60, x.now());
    }

    /** "The first attempt that does not fail does it". */
    private static void theFirstAttemptThatDoesNotFailDoesIt() {
        for (int failures = 0; failures <= 20; failures++) {
            QueryHarbor x = new QueryHarbor();
            x.fail(1, failures, false);
            x.step(ADD, 3, 5, 500, 0, 0);
            Checks.due(failures + " to fail", failures < 3 ? -1 : 0, x.run());
            Checks.due(failures + " to fail: rows", failures < 3 ? 1 : 0, x.count(3));
            Checks.due(failures + " to fail: losses", failures < 3 ? 1 : 0, x.losses());
            Checks.due(failures + " to fail: moment", failures < 3 ? 1 : 0, x.moment());
            Checks.due(failures + " to fail: attempts", Math.min(3, failures + 1), x.now());
            Checks.due(failures + " to fail: left", Math.max(0, failures - 3), x.fail(1, 0, false));
        }
    }

    /** "the first attempt, though it fails; it is never done twice". */
    private static void neverDoneTwice() {
        for (int failures = 0; failures <= 20; failures++) {
            QueryHarbor x = new QueryHarbor();
            x.fail(0, failures, true);
            x.step(ADD, 1, 5, 6, 7, 8);
            String what = failures + " to fail, doing it";
            Checks.due(what, failures < 3 ? -1 : 0, x.run());
            Checks.due(what + ": rows", failures < 3 ? 1 : 0, x.count(1));
            Checks.due(what + ": moment", failures < 3 ? 1 : 2, x.moment());
            Checks.due(what + ": attempts", Math.min(3, failures + 1), x.now());
            x.fail(0, 0, false);
            Checks.due(what + ": the next mark", 1, x.add(1, 5, 6, 7, 8));
        }
        QueryHarbor y = new QueryHarbor();
        y.setPace(2, 1, 3);
        y.add(4, 1, 1, 1, 1);
        Setups.draft(y, 4);
        y.ask(0, 200);
        y.fail(2, 2, true);
        y.step(CHANGE, 4, 1, 1, 9, 0);
        Checks.due("run", -1, y.run());
        Checks.due("three attempts", 4, y.now());
        Checks.due("done by the first one, at 2: its message comes at 5", 1, y.entries());
        y.pass(1);
        Checks.due("it has come", 0, y.entries());
    }

    /** "so others follow it as ever, also if the step was done by it, or could not be done". */
    private static void othersFollowAsEver() {
        for (int failures = 0; failures <= 4; failures++) {
            QueryHarbor x = new QueryHarbor();
            x.fail(2, failures, true);
            x.step(REMOVE, 5, 5, 0, 0, 0);
            Checks.due("could not be done", 0, x.run());
            Checks.due("attempts, " + failures + " to fail", Math.min(3, failures + 1), x.now());
            Checks.due("no write", 0, x.moment());
            QueryHarbor y = Setups.withRows(5, 6);
            y.fail(2, failures, true);
            y.step(REMOVE, 5, 5, 0, 0, 0);
            Checks.due("was done", failures < 3 ? -1 : 0, y.run());
            Checks.due("attempts, " + failures + " to fail", Math.min(3, failures + 1), y.now());
            Checks.due("rows", failures < 3 ? 5 : 6, y.count(5));
        }
    }

    /** "Whether it can be done is looked at when it would be done". */
    private static void lookedAtWhenItWouldBeDone() {
        QueryHarbor x = Setups.withRows(4, 12);
        x.step(REMOVE, 4, 3, 0, 0, 0);
        x.step(ADD, 4, 50, MISSING, NULL, 1);
        x.step(CHANGE, 4, 50, 2, MISSING, 0);
        x.step(REMOVE, 4, 50, 0, 0, 0);
        Checks.due("each by what the one before has done", -1, x.run());
        Checks.due("rows", 11, x.count(4));
        x.step(ADD, 4, 50, 1, 1, 1);
        x.step(ADD, 4, 51, 1, 1, 1);
        Checks.due("full by the step before", 1, x.run());
        Checks.due("taken back", 11, x.count(4));
        QueryHarbor y = new QueryHarbor();
        Checks.due("a step for a row that is not there yet", 1, y.step(CHANGE, 0, 0, 0, 7, 0));
        y.add(0, 1, 1, 1, 1);
        Checks.due("it is there now", -1, y.run());
        Checks.due("changed", 7, y.cell(0, 0, 0));
        y.step(REMOVE, 0, 0, 0, 0, 0);
        y.remove(0, 0);
        Checks.due("it is gone by now", 0, y.run());
    }

    private static void dueStep(String what, int due, int kind, int source, int a, int b, int c) {
        QueryHarbor x = Setups.withRows(source, 3);
        x.step(kind, source, a, b, c, 0);
        Checks.due(what, due, x.run());
        Checks.due(what + ": moment", due == -1 ? 4 : 3, x.moment());
    }

    /** "it cannot, if adding, changing or removing would throw an exception just then". */
    private static void itCannotIfItWouldThrow() {
        for (int cell : new int[] {-1000, -999, 999, 1000, 4999, NULL, MISSING, 5002}) {
            boolean number = cell == -999 || cell == 999;
            dueStep("a table's cell " + cell, number || cell == NULL ? -1 : 0, ADD, 0, 1, cell, 0);
            dueStep("a value " + cell, number || cell == NULL ? -1 : 0, ADD, 2, 50, cell, 0);
            dueStep("a field " + cell, number || cell == NULL || cell == MISSING ? -1 : 0, ADD, 4, 50, 1, cell);
            dueStep("a table's cell to " + cell, number || cell == NULL ? -1 : 0, CHANGE, 1, 2, 0, cell);
            dueStep("a value to " + cell, number || cell == NULL ? -1 : 0, CHANGE, 3, 2, 1, cell);
            dueStep("a field to " + cell, number || cell == NULL || cell == MISSING ? -1 : 0, CHANGE, 5, 2, 3, cell);
        }
        for (int key : new int[] {-1, 0, 2, 3, 99, 100, NULL, MISSING}) {
            boolean free = key == 3 || key == 99;
            dueStep("the key " + key, free ? -1 : 0, ADD, 2, key, 1, 0);
            dueStep("the id " + key, free ? -1 : 0, ADD, 4, key, 1, 0);
            boolean there = key == 0 || key == 2;
            dueStep("changing the mark " + key, there ? -1 : 0, CHANGE, 0, key, 1, 0);
            dueStep("changing the key " + key, there ? -1 : 0, CHANGE, 2, key, 1, 0);
            dueStep("removing the mark " + key, there ? -1 : 0, REMOVE, 1, key, 0, 0);
            dueStep("removing the id " + key, there ? -1 : 0, REMOVE, 5, key, 0, 0);
        }
        for (int column = -1; column <= 4; column++) {
            boolean inTable = column >= 0 && column < 4;
            dueStep("the column " + column + " of a table", inTable ? -1 : 0, CHANGE, 0, 1, column, 5);
            dueStep("the column " + column + " of KEYS", column == 1 ? -1 : 0, CHANGE, 2, 1, column, 5);
            dueStep("the column " + column + " of DOCUMENTS", inTable && column > 0 ? -1 : 0, CHANGE, 4, 1, column, 5);
            dueStep("the column " + column + " of KEYS, to 0", column == 1 ? -1 : 0, CHANGE, 2, 1, column, 0);
            dueStep("c in KEYS " + column, column == 0 ? -1 : 0, ADD, 3, 50, 1, column);
        }
    }

    /** "NONE if all steps were done; otherwise the place, from 0 on, of the one that ended it". */
    private static void thePlaceThatEndedIt() {
        for (int steps = 1; steps <= 4; steps++) {
            for (int wrong = 0; wrong <= steps; wrong++) {
                QueryHarbor x = Setups.withRows(2, 4);
                for (int i = 0; i < steps; i++) {
                    x.step(CHANGE, 2, i == wrong ? 50 : i, 1, 60 + i, 0);
                }
                boolean all = wrong == steps;
                Checks.due(steps + " steps, wrong is " + wrong, all ? -1 : wrong, x.run());
                Checks.due("moment", 4 + (all ? steps : 2 * wrong), x.moment());
                for (int i = 0; i < 4; i++) {
                    Checks.due("value of " + i, all && i < steps ? 60 + i : i, x.cell(2, i, 1));
                }
                Checks.due("no request behind it", all ? steps : wrong + 1, x.now());
            }
        }
    }

    /** "all steps that were done, that one, if it was, included, are taken back". */
    private static void thatOneIncluded() {
        for (int kind = ADD; kind <= REMOVE; kind++) {
            for (int does = 0; does < 2; does++) {
                QueryHarbor x = Setups.withRows(4, 3);
                Setups.addRows(x, 0, 1);
                x.fail(2, 3, does == 1);
                x.step(CHANGE, 0, 0, 0, 9, 0);
                x.step(kind, 4, kind == ADD ? 50 : 1, kind == REMOVE ? 0 : 2, kind == REMOVE ? 0 : 7, 0);
                Checks.due("without an answer", 1, x.run());
                Checks.due("moment", 4 + (does == 1 ? 4 : 2), x.moment());
                Checks.due("rows", 3, x.count(4));
                Checks.due("as it was", 0, x.cell(4, 1, 2));
                Checks.due("as it was", 0, x.cell(0, 0, 0));
            }
        }
    }

    /** "are taken back, the last one first, each by a write that is the opposite". */
    private static void theLastOneFirst() {
        QueryHarbor x = new QueryHarbor();
        x.add(4, 1, 10, 20, 30);
        x.step(CHANGE, 4, 1, 1, 11, 0);
        x.step(CHANGE, 4, 1, 1, MISSING, 0);
        x.step(REMOVE, 4, 1, 0, 0, 0);
        x.step(REMOVE, 4, 1, 0, 0, 0);
        Checks.due("it is gone", 3, x.run());
        Checks.due("the cell of the first step", 10, x.cell(4, 1, 1));
        Checks.due("others", 20, x.cell(4, 1, 2));
        x.step(REMOVE, 4, 1, 0, 0, 0);
        x.step(ADD, 4, 1, 5, 5, 5);
        x.step(CHANGE, 4, 1, 3, 6, 0);
        x.step(ADD, 4, 1, 7, 7, 7);
        Checks.due("it is there", 3, x.run());
        for (int column = 1; column < 4; column++) {
            Checks.due("the row of before", 10 * column, x.cell(4, 1, column));
        }
        x.step(ADD, 5, 1, 1, 1, 1);
        x.step(REMOVE, 5, 1, 0, 0, 0);
        x.step(ADD, 5, 1, 2, 2, 2);
        x.step(CHANGE, 5, 2, 1, 1, 0);
        Checks.due("no row 2", 3, x.run());
        Checks.due("none", 0, x.count(5));
    }

    /** "a row that was removed comes back with its mark". */
    private static void comesBackWithItsMark() {
        for (int source = 0; source < 6; source++) {
            for (int mark = 0; mark < 12; mark++) {
                QueryHarbor x = Setups.withRows(source, 12);
                x.change(source, mark, 1, NULL);
                x.step(REMOVE, source, mark, 0, 0, 0);
                x.step(REMOVE, source, mark, 0, 0, 0);
                Checks.due("run", 1, x.run());
                Checks.due("rows", 12, x.count(source));
                Checks.due("the row", mark, x.cell(source, mark, 0));
                Checks.due("its cell", NULL, x.cell(source, mark, 1));
                Setups.draft(x, source);
                x.ask(0, 200);
                for (int i = 0; i < 12; i++) {
                    Checks.due("in its place", i, x.answer(i, 0));
                }
            }
        }
    }

    /** A source that is full again by a step: the added row goes ahead of the one that comes back. */
    private static void comesBackToAFullSource() {
        for (int source = 0; source < 6; source++) {
            QueryHarbor x = Setups.withRows(source, 12);
            int s = source;
            x.step(REMOVE, source, 5, 0, 0, 0);
            x.step(REMOVE, source, 0, 0, 0, 0);
            x.step(ADD, source, 60, 1, 0, 0);
            x.step(CHANGE, source, 0, 1, 1, 0);
            Checks.due("run", 3, x.run());
            Checks.due("twelve rows", 12, x.count(source));
            Checks.due("the row 5", 5, x.cell(source, 5, 1));
            Checks.due("the row 0", 0, x.cell(source, 0, 1));
            Checks.place("the added one is gone", () -> x.cell(s, s < 2 ? 12 : 60, 0));
            Checks.state("full", () -> x.add(s, 70, 1, 0, 0));
            x.remove(source, 3);
            Checks.due("marks are used up by what was taken back", s < 2 ? 13 : 60, x.add(source, 60, 1, 0, 0));
        }
    }

    /** "this is done at once, without requests". */
    private static void doneAtOnceWithoutRequests() {
        QueryHarbor x = Setups.withRows(0, 3);
        x.setBounds(0, 3, 0);
        x.setPace(0, 2, 60);
        x.step(CHANGE, 0, 0, 0, 7, 0);
        x.step(REMOVE, 0, 1, 0, 0, 0);
        x.step(CHANGE, 0, 1, 0, 7, 0);
        Checks.due("the third one", 2, x.run());
        Checks.due("three attempts", 6, x.now());
        Checks.due("rows", 3, x.count(0));
        x.setBounds(0, 20, 12);
        x.fail(0, 4, false);
        x.step(ADD, 2, 1, 1, 0, 0);
        x.step(CHANGE, 0, 0, 0, 7, 0);
        Checks.due("the store fails", 1, x.run());
        Checks.due("that of KEYS is taken back", 0, x.count(2));
        Checks.due("one is left", 1, x.fail(0, 0, false));
    }

    /** "each by a write": it makes a moment, and sends a message. */
    private static void eachByAWrite() {
        QueryHarbor x = Setups.withRows(0, 1);
        x.setPace(0, 0, 0);
        x.setPace(1, 0, 60);
        Setups.draft(x, 2);
        x.ask(0, 200);
        x.step(ADD, 2, 1, 1, 0, 0);
        x.step(REMOVE, 2, 2, 0, 0, 0);
        Checks.due("run", 1, x.run());
        Checks.due("two writes", 3, x.moment());
        Checks.due("both are on their way", 1, x.entries());
        x.ask(200, 200);
        Checks.due("the entry is right up to the first one", 1, x.claims());
        x.ask(0, 200);
        Checks.due("the same tick: the entry", 1, x.claims());
        x.pass(1);
        x.ask(0, 200);
        Checks.due("the rows are the same, the moment is not", 3, x.claims());
    }

    /** "counted as losses when a step is done, not when it is taken back". */
    private static void lossesCountWhenDone() {
        QueryHarbor x = new QueryHarbor();
        x.add(3, 1, 50, 0, 0);
        x.step(CHANGE, 3, 1, 1, 100, 0);
        x.step(CHANGE, 3, 1, 1, -1, 0);
        x.step(CHANGE, 3, 1, 1, NULL, 0);
        x.step(REMOVE, 3, 2, 0, 0, 0);
        Checks.due("no loss by a step alone", 0, x.losses());
        Checks.due("run", 3, x.run());
        Checks.due("two, and none by what is taken back", 2, x.losses());
        Checks.due("as it was", 50, x.cell(3, 1, 1));
        x.step(ADD, 3, 1, 999, 0, 0);
        Checks.due("it cannot be done", 0, x.run());
        Checks.due("so there is no loss", 2, x.losses());
        x.fail(1, 3, true);
        x.step(ADD, 3, 2, 999, 0, 0);
        Checks.due("done by an attempt that fails, and taken back", 0, x.run());
        Checks.due("one loss", 3, x.losses());
        x.change(3, 1, 1, 999);
        x.step(REMOVE, 3, 1, 0, 0, 0);
        x.step(REMOVE, 3, 1, 0, 0, 0);
        Checks.due("removed, and back", 1, x.run());
        Checks.due("no loss by that", 4, x.losses());
    }

    /** "Runs the bundle; it is empty then." */
    private static void itIsEmptyThen() {
        for (int due = -1; due < 1; due++) {
            QueryHarbor x = new QueryHarbor();
            int wrong = due == 0 ? 1000 : 1;
            x.step(ADD, 0, wrong, 1, 1, 1);
            x.step(ADD, 0, 2, 2, 2, 2);
            Checks.due("run", due, x.run());
            Checks.state("empty", x::run);
            Checks.due("the first one again", 1, x.step(ADD, 0, 3, 3, 3, 3));
            int before = x.count(0);
            Checks.due("run", -1, x.run());
            Checks.due("that one alone", before + 1, x.count(0));
        }
    }
}
