/**
 * The sentences of the document's head, 'Terms', that name an edge, from how a query is asked on: sizes and guesses,
 * binds and switches, the cache, and what an answer claims. Each has a test of its own here, in their order.
 */
public final class EdgesOfAskingTest {
    private static final int NULL = QueryHarbor.NULL;
    private static final int MISSING = QueryHarbor.MISSING;
    private static final int SAME = QueryHarbor.SAME;
    private static final int LESS = QueryHarbor.LESS;
    private static final int MORE = QueryHarbor.MORE;
    private static final int IS_NULL = QueryHarbor.IS_NULL;
    private static final int IS_MISSING = QueryHarbor.IS_MISSING;
    private static final int CACHED = QueryHarbor.HOW_CACHED;
    private static final int BOUND = QueryHarbor.HOW_BOUND;
    private static final int SWITCHED = QueryHarbor.HOW_SWITCHED;
    private static final int SCANNED = QueryHarbor.HOW_SCANNED;

    public static void main(String[] args) {
        howAQueryIsAsked();
        bindsAndSwitches();
        theCache();
        whatAnAnswerClaims();
        Checks.end("EdgesOfAskingTest");
    }

    // ---- how a query is asked

    private static void howAQueryIsAsked() {
        theSizeIs10AtFirst();
        theLatestScanTellsTheSize();
        guessesAreHalvedButAtLeast1();
        linkedSeatsAreTakenFirst();
        ofSeveralTheLowestOne();
        guessesAreOfTheirTime();
    }

    /** "10 at first; then what the latest scan without conditions that were sent, whose answer was not cut". */
    private static void theSizeIs10AtFirst() {
        for (int source = 0; source < 6; source++) {
            QueryHarbor x = Setups.withRows(source, 12);
            Setups.draft(x, source);
            x.where(0, 0, SAME, 1);
            x.ask(0, 200);
            Checks.due("a condition that was sent", 10, x.size(source));
            Setups.draft(x, source);
            x.setBounds(source / 2, 20, 11);
            x.ask(0, 200);
            Checks.due("cut", 10, x.size(source));
            x.setBounds(source / 2, 20, 12);
            x.fail(source / 2, 3, false);
            x.ask(0, 200);
            Checks.due("no answer", 10, x.size(source));
            x.ask(0, 200);
            Checks.due("told", 12, x.size(source));
            for (int other = 0; other < 6; other++) {
                Checks.due("others", other == source ? 12 : 10, x.size(other));
            }
        }
    }

    /** "what the latest scan ... has told": not the cache, not a bind, not a write; a switch's scan, and 0, too. */
    private static void theLatestScanTellsTheSize() {
        QueryHarbor x = Setups.withRows(0, 3);
        Setups.draft(x, 0);
        x.setPace(0, 1, 60);
        x.ask(0, 200);
        Checks.due("a scan", 3, x.size(0));
        for (int mark = 0; mark < 3; mark++) {
            x.remove(0, mark);
        }
        Checks.due("a write", 3, x.size(0));
        x.ask(200, 200);
        Checks.due("the cache", 3, x.size(0));
        x.pass(1);
        x.ask(0, 200);
        Checks.due("none", 0, x.size(0));
        QueryHarbor y = Setups.withRows(2, 3);
        Setups.addRows(y, 4, 2);
        Setups.draft(y, 2, 4);
        y.link(0, 0, 1, 0);
        y.ask(0, 200);
        Checks.due("bound", 10 + BOUND, y.taken(1));
        Checks.due("a bind", 10, y.size(4));
        Setups.draft(y, 4);
        y.where(0, 1, IS_NULL, 0);
        Checks.due("no row has it", 0, y.ask(0, 200));
        Checks.due("what is done here does not count", 2, y.size(4));
    }

    /** Which seat is taken first: one of the source 1, with a size, or one of the source 0 with conditions. */
    private static int firstTaken(int sizeOfOne, int conditions) {
        QueryHarbor x = Setups.withRows(1, sizeOfOne);
        Setups.draft(x, 1);
        x.ask(0, 200);
        x.pass(1);
        Setups.draft(x, 1, 0);
        for (int i = 0; i < conditions; i++) {
            x.where(1, i, LESS, 500);
        }
        x.ask(0, 200);
        return x.taken(0) / 10;
    }

    /** "halved, rounded down, for each condition that is sent, but at least 1". */
    private static void guessesAreHalvedButAtLeast1() {
        int[] guesses = {10, 5, 2, 1, 1};
        for (int conditions = 0; conditions <= 4; conditions++) {
            for (int size = 0; size <= 12; size++) {
                int due = guesses[conditions] < Math.max(1, size) ? 1 : 0;
                Checks.due("size " + size + ", conditions " + conditions, due, firstTaken(size, conditions));
            }
        }
        QueryHarbor x = new QueryHarbor();
        Setups.draft(x, 0, 4);
        x.where(1, 1, LESS, 5);
        x.where(1, 1, IS_NULL, 0);
        x.ask(0, 200);
        Checks.due("what is not sent does not halve", SCANNED, x.taken(0));
        Setups.draft(x, 1, 5);
        x.where(1, 1, IS_MISSING, 0);
        x.ask(0, 200);
        Checks.due("what is sent does", 10 + SCANNED, x.taken(0));
    }

    /** "if some of these have a link with one that was taken, of those, otherwise of all". */
    private static void linkedSeatsAreTakenFirst() {
        QueryHarbor x = new QueryHarbor();
        Setups.draft(x, 0, 2, 4);
        x.link(0, 0, 1, 0);
        x.where(2, 0, SAME, 1);
        x.where(2, 1, SAME, 1);
        x.where(1, 0, SAME, 1);
        x.ask(0, 200);
        Checks.due("the least", 20 + SCANNED, x.taken(0));
        Checks.due("no link with that: the least of the others", 10 + SCANNED, x.taken(1));
        Checks.due("the last one", 0, x.taken(2) / 10);
        Setups.draft(x, 1, 3, 5);
        x.link(0, 0, 2, 0);
        x.where(2, 0, SAME, 1);
        x.where(2, 1, SAME, 1);
        x.where(1, 0, SAME, 1);
        x.where(1, 0, SAME, 2);
        x.ask(0, 200);
        Checks.due("alike: the lower one", 1, x.taken(0) / 10);
        Checks.due("no link with that: the least", 2, x.taken(1) / 10);
        Checks.due("the last one", 0, x.taken(2) / 10);
    }

    /** "of several the lowest one". */
    private static void ofSeveralTheLowestOne() {
        QueryHarbor x = new QueryHarbor();
        Setups.draft(x, 4, 2, 0);
        x.ask(0, 200);
        for (int place = 0; place < 3; place++) {
            Checks.due("all alike", 10 * place + SCANNED, x.taken(place));
        }
        Setups.draft(x, 5, 3, 1);
        x.where(2, 0, SAME, 1);
        x.where(1, 0, SAME, 1);
        x.ask(0, 200);
        Checks.due("two alike", 10 + SCANNED, x.taken(0));
        Checks.due("the other one of them", 20 + SCANNED, x.taken(1));
        Checks.due("the rest", SCANNED, x.taken(2));
    }

    /** "The size of a source is what is believed at a time": what a scan of this query has told counts at once. */
    private static void guessesAreOfTheirTime() {
        QueryHarbor x = Setups.withRows(0, 2);
        Setups.draft(x, 0, 2, 0);
        x.where(0, 1, IS_MISSING, 0);
        x.where(2, 0, MORE, -5);
        x.where(2, 0, MORE, -6);
        x.ask(0, 200);
        Checks.due("2 by two conditions", 20 + SCANNED, x.taken(0));
        Checks.due("10 and 10", SCANNED, x.taken(1));
        Checks.due("the rest", 10 + SCANNED, x.taken(2));
        QueryHarbor y = Setups.withRows(0, 2);
        Setups.draft(y, 0, 2, 0);
        y.setLease(0, 0);
        y.ask(0, 200);
        Checks.due("10, 10, 10", SCANNED, y.taken(0));
        Checks.due("now 2, which is less than 10", 20 + CACHED, y.taken(1));
        Checks.due("the rest", 10 + SCANNED, y.taken(2));
    }

    // ---- binds and switches

    private static void bindsAndSwitches() {
        ifTheBindWouldCostLess();
        theDifferentNumbersOfItsRows();
        fourInARequest();
        ifItsStoreCanDoSame();
        anEntryIsAheadOfABind();
        asMuchAsTheScanWouldOrMore();
        behindTheLastOneNoSwitch();
        noOthersFollow();
        eachAnswerOfABindMayBeCut();
        numbersThatMustNotBeSent();
    }

    /** The keys 0 to keys - 1 are in the rows of the seat 0; how the seat 1 of the source is taken, with its size. */
    private static QueryHarbor joined(int keys, int source, int size) {
        int from = source < 2 ? 4 : 0;
        QueryHarbor x = Setups.withRows(from, keys);
        Setups.addRows(x, source, size);
        if (size != 10) {
            Setups.draft(x, source);
            x.ask(0, 200);
        }
        x.pass(1);
        Setups.draft(x, from, source);
        x.link(0, 0, 1, 0);
        for (int i = 0; i < 3; i++) {
            x.where(0, 0, MORE, -1 - i);
        }
        return x;
    }

    /** "A bind would cost the fee for each four keys, or part of that ... If the bind would cost less, it is done". */
    private static void ifTheBindWouldCostLess() {
        int[] fees = {5, 1, 3};
        int[] freights = {1, 1, 2};
        for (int source = 1; source < 6; source += 2) {
            int fee = fees[source / 2];
            int freight = freights[source / 2];
            for (int size = 1; size <= 12; size++) {
                for (int keys = 0; keys <= 12; keys++) {
                    QueryHarbor x = joined(keys, source, size);
                    x.ask(0, 200);
                    int bind = fee * ((keys + 3) / 4) + freight * keys;
                    int scan = fee + freight * size;
                    Checks.due("source " + source + ", " + size + " rows, " + keys + " keys",
                            10 + (bind < scan ? BOUND : SCANNED), x.taken(1));
                    Checks.due("matches", Math.min(size, keys), x.answers());
                }
            }
        }
    }

    /** "the different numbers in the column of the other seat, in the rows that this has, its conditions holding". */
    private static void theDifferentNumbersOfItsRows() {
        QueryHarbor x = new QueryHarbor();
        int[] numbers = {NULL, MISSING, -999, 999, 999, NULL, -999, 0, 0, 5, 6, 7};
        for (int i = 0; i < 12; i++) {
            x.add(4, i, numbers[i], 0, 0);
        }
        x.add(0, -999, 0, 0, 0);
        x.add(0, NULL, 0, 0, 0);
        x.add(0, 999, 0, 0, 0);
        x.add(0, 6, 0, 0, 0);
        Setups.draft(x, 4, 0);
        x.link(0, 1, 1, 0);
        x.where(0, 0, LESS, 10);
        x.where(0, 2, LESS, 1);
        Checks.due("two with each of the ends", 4, x.ask(0, 200));
        Checks.due("bound", 10 + BOUND, x.taken(1));
        Checks.due("four keys: -999, 0, 5, 999", 2, x.attempts());
        Checks.due("rows for them, but not for 6", 10 + 2, x.shipped());
        x.where(0, 2, MORE, 0);
        x.pass(1);
        Checks.due("no row holds", 0, x.ask(0, 200));
        Checks.due("bound with no keys", 10 + BOUND, x.taken(1));
        Checks.due("no request", 1, x.attempts());
        Checks.due("whole", 0, x.missing());
        Checks.due("no entry of a bind", 2, x.entries());
    }

    /** "the keys are sent by rising numbers, four in a request, the last ones perhaps fewer". */
    private static void fourInARequest() {
        for (int keys = 0; keys <= 9; keys++) {
            QueryHarbor x = joined(keys, 3, 12);
            x.ask(0, 200);
            Checks.due("bound", 10 + BOUND, x.taken(1));
            Checks.due(keys + " keys", 1 + (keys + 3) / 4, x.attempts());
            Checks.due(keys + " keys: rows", 2 * keys, x.shipped());
            QueryHarbor late = joined(keys, 3, 12);
            late.setPace(1, 10, 0);
            late.ask(0, 1);
            Checks.due("only the least four come in time", Math.min(4, keys), late.answers());
            Checks.due("the others do not", keys > 4 ? 2 : 0, late.missing());
        }
    }

    /** "if its store can do SAME for its column of that". */
    private static void ifItsStoreCanDoSame() {
        for (int source = 0; source < 6; source++) {
            for (int column = 0; column < (source == 2 || source == 3 ? 2 : 4); column++) {
                QueryHarbor x = new QueryHarbor();
                int from = (source + 2) % 6;
                Setups.draft(x, from, source);
                x.link(0, 0, 1, column);
                x.ask(0, 200);
                boolean can = source / 2 != 1 || column == 0;
                Checks.due("source " + source + " column " + column, 10 + (can ? BOUND : SCANNED), x.taken(1));
                QueryHarbor y = new QueryHarbor();
                Setups.draft(y, source, from);
                y.link(0, column, 1, 0);
                y.where(1, 0, SAME, 1);
                y.ask(0, 200);
                Checks.due("the lower seat of a link, source " + source + " column " + column,
                        can ? BOUND : SCANNED, y.taken(1));
            }
        }
    }

    /** "If there is an entry in the cache that can serve it ... Otherwise, if it has a link". */
    private static void anEntryIsAheadOfABind() {
        QueryHarbor x = Setups.withRows(0, 2);
        Setups.addRows(x, 4, 12);
        Setups.draft(x, 4);
        x.ask(0, 200);
        Setups.draft(x, 0, 4);
        x.link(0, 0, 1, 0);
        x.where(0, 0, LESS, 50);
        Checks.due("matches", 2, x.ask(200, 200));
        Checks.due("cached, though a bind would be cheap", 10 + CACHED, x.taken(1));
        Checks.due("no rows for it", 2, x.shipped());
    }

    /** Five keys for a collection with 12 rows: so many of them in the first request, the others in the second one. */
    private static QueryHarbor dear(int inFirst, int failures) {
        QueryHarbor x = Setups.withRows(0, 5);
        for (int i = 0; i < 12; i++) {
            x.add(4, i, i < inFirst ? i % 4 : 4, 0, 0);
        }
        x.fail(2, failures, false);
        Setups.draft(x, 0, 4);
        x.link(0, 0, 1, 1);
        return x;
    }

    /** "if this seat has cost as much as the scan would, or more, what came is dropped, and a scan is made". */
    private static void asMuchAsTheScanWouldOrMore() {
        for (int failures = 0; failures < 3; failures++) {
            for (int inFirst = 0; inFirst <= 12; inFirst++) {
                QueryHarbor x = dear(inFirst, failures);
                Checks.due("all rows", 12, x.ask(0, 200));
                int first = 3 * (failures + 1) + 2 * inFirst;
                boolean switched = first >= 3 + 2 * 10;
                String what = inFirst + " in the first one, " + failures + " failing";
                Checks.due(what, 10 + (switched ? SWITCHED : BOUND), x.taken(1));
                Checks.due(what + ": cost", 10 + first + 3 + 2 * (switched ? 12 : 12 - inFirst), x.cost());
                Checks.due(what + ": rows", 5 + (switched ? inFirst : 0) + 12, x.shipped());
                Checks.due(what + ": attempts", 3 + failures, x.attempts());
                Checks.due(what + ": entries", switched ? 2 : 1, x.entries());
                Checks.due(what + ": size", switched ? 12 : 10, x.size(4));
                Checks.due(what + ": whole", 0, x.missing());
                Checks.due(what + ": claims", 17, x.claims());
            }
        }
    }

    /** "Behind each request but the last one". */
    private static void behindTheLastOneNoSwitch() {
        QueryHarbor x = dear(0, 2);
        x.where(0, 0, MORE, 0);
        Checks.due("12 rows for four keys", 12, x.ask(0, 200));
        Checks.due("9 and 24 are more than 23, but there is one request", 10 + BOUND, x.taken(1));
        Checks.due("cost", 9 + 9 + 24, x.cost());
        QueryHarbor y = dear(9, 0);
        y.ask(0, 200);
        Checks.due("3 and 18, then 3 and 6 more: nothing behind that", 10 + BOUND, y.taken(1));
        Checks.due("30 is more than 23", 10 + 30, y.cost());
    }

    /** "If a request is without an answer, no others follow, and there is no switch." */
    private static void noOthersFollow() {
        QueryHarbor x = dear(10, 3);
        Checks.due("nothing came", 0, x.ask(0, 200));
        Checks.due("bound", 10 + BOUND, x.taken(1));
        Checks.due("no second request", 4, x.attempts());
        Checks.due("open", 2, x.missing());
        Checks.due("claims none", -1, x.claims());
        QueryHarbor y = dear(4, 0);
        y.setPace(2, 5, 0);
        Checks.due("the first request is answered, the second one is not", 4, y.ask(0, 5));
        Checks.due("bound", 10 + BOUND, y.taken(1));
        Checks.due("what came stays", 4, y.answers());
        Checks.due("open", 2, y.missing());
        QueryHarbor late = dear(4, 0);
        late.setPace(2, 5, 0);
        Checks.due("one tick more of a deadline", 12, late.ask(0, 6));
        Checks.due("whole", 0, late.missing());
    }

    /** "A seat is open if one of its requests ... was without an answer, or its answer was cut". */
    private static void eachAnswerOfABindMayBeCut() {
        for (int cap = 0; cap <= 12; cap++) {
            QueryHarbor x = dear(6, 0);
            x.setBounds(2, 20, cap);
            Checks.due("6 and 6 rows, cap " + cap, 2 * Math.min(6, cap), x.ask(0, 200));
            Checks.due("open, cap " + cap, cap < 6 ? 2 : 0, x.missing());
            Checks.due("claims, cap " + cap, cap < 6 ? -1 : 17, x.claims());
            QueryHarbor y = dear(2, 0);
            y.setBounds(2, 20, cap);
            Checks.due("2 and 10 rows, cap " + cap, Math.min(2, cap) + Math.min(10, cap), y.ask(0, 200));
            Checks.due("only the second one cut, cap " + cap, cap < 10 ? 2 : 0, y.missing());
            QueryHarbor z = dear(10, 0);
            z.setBounds(2, 20, cap);
            int first = Math.min(10, cap);
            int rows = first == 10 ? Math.min(12, cap) : first + Math.min(2, cap);
            Checks.due("10 and 2 rows, or a switch, cap " + cap, rows, z.ask(0, 200));
            Checks.due("how, cap " + cap, 10 + (first == 10 ? SWITCHED : BOUND), z.taken(1));
            Checks.due("open, cap " + cap, cap < 12 ? 2 : 0, z.missing());
        }
    }

    /** "if numbers of the source of the other seat may be sent to its store". */
    private static void numbersThatMustNotBeSent() {
        for (int from = 0; from < 6; from++) {
            for (int to = 0; to < 6; to++) {
                for (int store = 0; store < 3; store++) {
                    QueryHarbor x = new QueryHarbor();
                    x.forbid(from, store, true);
                    Setups.draft(x, from, to);
                    x.link(0, 0, 1, 0);
                    x.where(0, 0, SAME, 1);
                    x.where(1, 0, LESS, 1);
                    x.ask(0, 200);
                    Checks.due("from " + from + " to " + to + ", not to the store " + store,
                            10 + (store == to / 2 ? SCANNED : BOUND), x.taken(1));
                }
            }
        }
    }

    // ---- the cache

    private static void theCache() {
        thereAreSixAtMost();
        itTakesThePlaceOfTheOneMadeFirst();
        atMostAsManyTicksOldAsTheFreshness();
        eachOfItsConditionsFollows();
        ofSeveralTheOneMadeLast();
        asManyTicksLaterAsTheLag();
        entriesOfALaterMomentStay();
        moreTicksOldThanTheLease();
        aMessageWithoutALagComesAtOnce();
        aheadOfAllElse();
    }

    private static void scanOf(QueryHarbor x, int source, int number) {
        Setups.draft(x, source);
        x.where(0, 0, MORE, number);
        x.ask(0, 200);
    }

    private static void dueHow(String what, QueryHarbor x, int source, int number, int how) {
        Setups.draft(x, source);
        x.where(0, 0, MORE, number);
        x.ask(200, 200);
        Checks.due(what, how, x.taken(0));
    }

    /** "There are 6 at most". */
    private static void thereAreSixAtMost() {
        QueryHarbor x = new QueryHarbor();
        for (int i = 0; i < 14; i++) {
            x.pass(1);
            scanOf(x, i % 6, 50 - i);
            Checks.due("entries", Math.min(6, i + 1), x.entries());
        }
    }

    /** "a new one takes the place of the one that was made first", though that was used last. */
    private static void itTakesThePlaceOfTheOneMadeFirst() {
        QueryHarbor x = new QueryHarbor();
        for (int i = 0; i < 6; i++) {
            x.pass(1);
            scanOf(x, 0, 50 - i);
        }
        Setups.draft(x, 0);
        x.where(0, 0, SAME, 70);
        x.ask(5, 200);
        Checks.due("the one made last", CACHED, x.taken(0));
        dueHow("the first one is there", x, 0, 50, CACHED);
        scanOf(x, 1, 7);
        Checks.due("still six", 6, x.entries());
        x.change(1, x.add(1, 0, 0, 0, 0), 0, 1);
        Checks.due("five of the source 0", 5, x.entries());
        scanOf(x, 2, 7);
        Checks.due("six again", 6, x.entries());
        dueHow("the second one is there", x, 0, 49, CACHED);
        for (int i = 0; i < 5; i++) {
            scanOf(x, 3, 60 - i);
        }
        Checks.due("six", 6, x.entries());
        x.add(3, 1, 1, 0, 0);
        Checks.due("the five last ones are gone", 1, x.entries());
        dueHow("that of the source 2 was the sixth last", x, 2, 7, CACHED);
    }

    /** "at most as many ticks old as the freshness that is asked for". */
    private static void atMostAsManyTicksOldAsTheFreshness() {
        for (int age = 0; age <= 8; age++) {
            for (int fresh = 0; fresh <= 8; fresh++) {
                QueryHarbor x = new QueryHarbor();
                Setups.draft(x, 2);
                x.ask(0, 200);
                if (age > 0) {
                    x.pass(age);
                }
                x.ask(fresh, 200);
                Checks.due("age " + age + ", fresh " + fresh, age <= fresh ? CACHED : SCANNED, x.taken(0));
            }
        }
        QueryHarbor y = new QueryHarbor();
        y.setLease(0, 200);
        Setups.draft(y, 0);
        y.ask(0, 200);
        y.pass(100);
        y.pass(100);
        y.ask(200, 200);
        Checks.due("200 ticks old", CACHED, y.taken(0));
        y.pass(1);
        y.ask(200, 200);
        Checks.due("201 ticks old", SCANNED, y.taken(0));
    }

    /** "LESS from LESS with a number that is not more, and from SAME with a number that is less; ...". */
    private static void eachOfItsConditionsFollows() {
        int[] numbers = {-999, 4, 5, 6, 999};
        int[] kinds = {SAME, LESS, MORE};
        for (int kind : kinds) {
            for (int n : numbers) {
                for (int askedKind : kinds) {
                    for (int m : numbers) {
                        QueryHarbor x = new QueryHarbor();
                        Setups.draft(x, 0);
                        x.where(0, 2, kind, n);
                        x.ask(0, 200);
                        Setups.draft(x, 0);
                        x.where(0, 2, askedKind, m);
                        x.ask(200, 200);
                        boolean same = kind == askedKind && n == m;
                        boolean less = kind == LESS && (askedKind == LESS && m <= n || askedKind == SAME && m < n);
                        boolean more = kind == MORE && (askedKind == MORE && m >= n || askedKind == SAME && m > n);
                        Checks.due("entry " + kind + " " + n + ", seat " + askedKind + " " + m,
                                same || less || more ? CACHED : SCANNED, x.taken(0));
                    }
                }
            }
        }
        QueryHarbor y = new QueryHarbor();
        Setups.draft(y, 4);
        y.where(0, 1, IS_MISSING, 0);
        y.ask(0, 200);
        dueHow("none follows from none", y, 4, 5, SCANNED);
        Setups.draft(y, 4);
        y.where(0, 2, IS_MISSING, 0);
        y.ask(0, 200);
        Checks.due("of another column", SCANNED, y.taken(0));
        y.where(0, 1, IS_MISSING, 0);
        y.ask(0, 200);
        Checks.due("from the same one", CACHED, y.taken(0));
    }

    /** "Of several the one that was made last." */
    private static void ofSeveralTheOneMadeLast() {
        QueryHarbor x = Setups.withRows(0, 1);
        x.setPace(0, 1, 60);
        for (int i = 0; i < 8; i++) {
            x.change(0, 0, 1, 10 + i);
            Setups.draft(x, 0);
            x.out(0, 1);
            if (i % 2 == 0) {
                x.where(0, 0, LESS, 50 + i);
            }
            x.pass(1);
            x.ask(0, 200);
            Setups.draft(x, 0);
            x.out(0, 1);
            x.where(0, 0, SAME, 0);
            x.ask(200, 200);
            Checks.due("cached", CACHED, x.taken(0));
            Checks.due("the last one", 10 + i, x.answer(0, 1));
        }
    }

    /** "which comes as many ticks later as the lag of the store tells". */
    private static void asManyTicksLaterAsTheLag() {
        for (int lag = 0; lag <= 60; lag += 12) {
            QueryHarbor x = Setups.withRows(5, 1);
            x.setPace(2, 0, lag);
            x.setLease(2, 200);
            Setups.draft(x, 5);
            x.ask(0, 200);
            x.remove(5, 0);
            for (int tick = 0; tick <= lag; tick++) {
                Checks.due("lag " + lag + ", tick " + tick, tick < lag ? 1 : 0, x.entries());
                x.pass(1);
            }
        }
    }

    /** "all entries of the source whose moment is less than that which the write made are dropped". */
    private static void entriesOfALaterMomentStay() {
        QueryHarbor x = Setups.withRows(0, 1);
        x.setPace(0, 0, 5);
        scanOf(x, 0, 9);
        scanOf(x, 1, 9);
        x.change(0, 0, 0, 1);
        scanOf(x, 0, 8);
        x.change(1, x.add(1, 0, 0, 0, 0), 0, 1);
        x.pass(2);
        x.change(0, 0, 0, 2);
        scanOf(x, 0, 7);
        x.pass(2);
        Checks.due("none came", 4, x.entries());
        x.pass(1);
        Checks.due("two of the source 0 were made behind the first write", 2, x.entries());
        x.pass(1);
        Checks.due("the second write's message is on its way", 2, x.entries());
        x.pass(1);
        Checks.due("one was made behind that", 1, x.entries());
        dueHow("the last one", x, 0, 7, CACHED);
    }

    /** "more ticks old than the lease of its store, 60 at first, is dropped, also as the lease is made less". */
    private static void moreTicksOldThanTheLease() {
        for (int lease = 0; lease <= 200; lease += 25) {
            QueryHarbor x = new QueryHarbor();
            x.setLease(1, lease);
            scanOf(x, 2, 1);
            passAll(x, lease);
            Checks.due("as old as the lease " + lease, 1, x.entries());
            x.pass(1);
            Checks.due("older than the lease " + lease, 0, x.entries());
        }
        for (int lease = 0; lease <= 12; lease++) {
            QueryHarbor x = new QueryHarbor();
            scanOf(x, 2, 1);
            x.pass(6);
            x.setLease(1, lease);
            Checks.due("6 ticks old, made " + lease, lease < 6 ? 0 : 1, x.entries());
        }
        QueryHarbor y = new QueryHarbor();
        scanOf(y, 4, 1);
        y.pass(60);
        Checks.due("60 at first", 1, y.entries());
        y.pass(1);
        Checks.due("60 at first", 0, y.entries());
    }

    private static void passAll(QueryHarbor x, int ticks) {
        for (int left = ticks; left > 0; left -= 100) {
            x.pass(Math.min(left, 100));
        }
    }

    /** "a message without a lag comes at once". */
    private static void aMessageWithoutALagComesAtOnce() {
        for (int source = 0; source < 6; source++) {
            QueryHarbor x = Setups.withRows(source, 1);
            x.setPace(source / 2, 1, 30);
            scanOf(x, source, 1);
            scanOf(x, (source + 1) % 6, 1);
            x.change(source, 0, 1, 5);
            Checks.due("with a lag", 2, x.entries());
            x.setPace(source / 2, 1, 0);
            Checks.due("those on the way stay as they are", 2, x.entries());
            x.change(source, 0, 1, 5);
            Checks.due("without", 1, x.entries());
        }
    }

    /** "What is dropped at a tick is so as soon as the time has come there, ahead of all else". */
    private static void aheadOfAllElse() {
        QueryHarbor x = Setups.withRows(0, 1);
        x.setPace(0, 0, 7);
        scanOf(x, 0, -1);
        x.change(0, 0, 0, 9);
        x.setBounds(1, 1, 12);
        scanOf(x, 2, 1);
        x.pass(3);
        Setups.draft(x, 3, 0);
        x.where(0, 0, SAME, 1);
        x.where(1, 0, MORE, -1);
        x.ask(200, 200);
        Checks.due("the seat 1 is taken at 11", 11, x.now());
        Checks.due("the message came while the seat 0 waited", 10 + SCANNED, x.taken(1));
        QueryHarbor y = Setups.withRows(0, 1);
        y.setPace(0, 2, 4);
        scanOf(y, 0, -1);
        y.change(0, 0, 0, 9);
        y.pass(2);
        y.ask(0, 200);
        Checks.due("an answer comes at the tick of the message", 6, y.now());
        Checks.due("the old entry is dropped, the new one stays", 1, y.entries());
        Checks.due("it has the new row", 9, y.answer(0, 0));
        Checks.due("cached", 1, y.ask(0, 200));
        Checks.due("cached", CACHED, y.taken(0));
        QueryHarbor z = new QueryHarbor();
        z.setLease(0, 3);
        scanOf(z, 0, 1);
        z.setPace(1, 4, 0);
        Setups.draft(z, 2, 0);
        z.where(0, 0, SAME, 1);
        z.where(1, 0, MORE, 1);
        z.ask(200, 200);
        Checks.due("its lease ended while the seat 0 was scanned", 10 + SCANNED, z.taken(1));
    }

    // ---- what an answer claims

    private static void whatAnAnswerClaims() {
        from0IfThereWasNoWrite();
        upToTheOneAheadOfTheNextWrite();
        noneIfThereIsNone();
        ofNowIfABindHasNoKeys();
        oneThatIsNotWholeClaimsNone();
    }

    /** "from the one that the last write of its source up to then has made (0, if there was none)". */
    private static void from0IfThereWasNoWrite() {
        QueryHarbor x = new QueryHarbor();
        for (int store = 0; store < 3; store++) {
            x.setPace(store, 0, 60);
        }
        Setups.draft(x, 0);
        x.ask(0, 200);
        Checks.due("nothing was written at all", 0, x.claims());
        x.add(0, 1, 1, 1, 1);
        Setups.draft(x, 1);
        x.ask(0, 200);
        Checks.due("of now", 1, x.claims());
        Setups.draft(x, 0, 1);
        x.ask(200, 200);
        Checks.due("the source 0 up to 0, the source 1 from 0 on", 0, x.claims());
        Checks.due("no row", 0, x.answers());
        x.add(1, 1, 1, 1, 1);
        x.ask(200, 200);
        Checks.due("the source 1 up to 1, still from 0 on", 0, x.claims());
    }

    /** "up to the one ahead of that which the next write of the source has made, or that of now". */
    private static void upToTheOneAheadOfTheNextWrite() {
        QueryHarbor x = Setups.withRows(0, 3);
        x.setPace(0, 0, 60);
        Setups.draft(x, 0);
        x.ask(0, 200);
        Checks.due("of now", 3, x.claims());
        Setups.addRows(x, 2, 4);
        x.ask(200, 200);
        Checks.due("no other write of the source: that of now", 7, x.claims());
        x.change(0, 0, 0, 5);
        x.ask(200, 200);
        Checks.due("ahead of 8", 7, x.claims());
        x.change(0, 0, 0, 6);
        Setups.addRows(x, 4, 3);
        x.ask(200, 200);
        Checks.due("the next write counts, not the last one", 7, x.claims());
        Checks.due("as it was then", 0, x.answer(0, 0));
        x.pass(1);
        x.ask(0, 200);
        Checks.due("asked anew", 12, x.claims());
    }

    /** "claims the greatest moment for which the rows of all seats are right; none if there is none". */
    private static void noneIfThereIsNone() {
        QueryHarbor x = new QueryHarbor();
        x.setPace(0, 0, 60);
        x.setPace(2, 0, 60);
        x.add(0, 1, 1, 1, 1);
        scanOf(x, 0, 0);
        x.add(4, 1, 1, 1, 1);
        x.change(0, 0, 0, 2);
        scanOf(x, 4, 0);
        Checks.due("answered", 1, askBoth(x));
        Checks.due("1 to 2, and 2 to 3", 2, x.claims());
        QueryHarbor y = new QueryHarbor();
        y.setPace(0, 0, 60);
        y.setPace(2, 0, 60);
        y.add(0, 1, 1, 1, 1);
        scanOf(y, 0, 0);
        y.change(0, 0, 0, 2);
        y.add(4, 1, 1, 1, 1);
        scanOf(y, 4, 0);
        Checks.due("answered", 1, askBoth(y));
        Checks.due("whole", 0, y.missing());
        Checks.due("1 to 1, and 3 to 3", -1, y.claims());
        Setups.draft(y, 4);
        y.where(0, 0, MORE, 0);
        y.ask(200, 200);
        Checks.due("3 to 3", 3, y.claims());
    }

    /** Asks for the sources 0 and 4, of each of which the cache has an entry. */
    private static int askBoth(QueryHarbor x) {
        Setups.draft(x, 0, 4);
        x.where(0, 0, MORE, 0);
        x.where(1, 0, MORE, 0);
        int rows = x.ask(200, 200);
        Checks.due("both from the cache", 0, x.attempts());
        return rows;
    }

    /** "or that of now, if it has no keys". */
    private static void ofNowIfABindHasNoKeys() {
        QueryHarbor x = new QueryHarbor();
        x.setPace(0, 0, 60);
        Setups.draft(x, 0);
        x.ask(0, 200);
        x.add(4, 1, 1, 1, 1);
        x.add(4, 2, 1, 1, 1);
        Setups.draft(x, 0, 4);
        x.link(0, 0, 1, 0);
        x.where(0, 0, LESS, 5);
        x.ask(200, 200);
        Checks.due("the source 0 from the cache", CACHED, x.taken(0));
        Checks.due("no keys", 10 + BOUND, x.taken(1));
        Checks.due("0 to 2, and 2 to 2", 2, x.claims());
        x.add(0, 1, 1, 1, 1);
        x.ask(200, 200);
        Checks.due("0 to 2, and 2 to 3", 2, x.claims());
        x.change(4, 1, 1, 2);
        x.ask(200, 200);
        Checks.due("no keys still", 10 + BOUND, x.taken(1));
        Checks.due("0 to 2, and 4 to 4", -1, x.claims());
    }

    /** "One that is not whole claims none." */
    private static void oneThatIsNotWholeClaimsNone() {
        QueryHarbor x = Setups.withRows(0, 2);
        Setups.addRows(x, 2, 2);
        Setups.draft(x, 0, 2);
        x.setBounds(0, 20, 1);
        x.ask(0, 200);
        Checks.due("the seat 0 is cut", 1, x.missing());
        Checks.due("claims", -1, x.claims());
        x.setBounds(0, 20, 2);
        x.fail(1, 3, false);
        x.pass(1);
        x.ask(0, 200);
        Checks.due("the seat 1 is without an answer", 2, x.missing());
        Checks.due("claims", -1, x.claims());
        x.ask(0, 200);
        Checks.due("whole", 0, x.missing());
        Checks.due("claims", 4, x.claims());
    }
}
