/** Promises 16 to 21, 33 and 34: the draft of a query, and its answer from all data as they are. */
public final class DraftTest {
    private static final int NULL = QueryHarbor.NULL;
    private static final int MISSING = QueryHarbor.MISSING;

    public static void main(String[] args) {
        promise16Seat();
        promise17Link();
        promise17LinksHold();
        promise18Where();
        promise18ConditionsHold();
        promise19Out();
        promise20Limit();
        promise20Groups();
        promise21Clear();
        promise33AnswersAnew();
        promise34AnswerAnew();
        Checks.end("DraftTest");
    }

    private static void dueAnew(String what, QueryHarbor x, int[][] want) {
        Checks.due(what + ": rows", want.length, x.answersAnew());
        for (int row = 0; row < want.length; row++) {
            for (int column = 0; column < want[row].length; column++) {
                Checks.due(what + ": " + row + ", " + column, want[row][column], x.answerAnew(row, column));
            }
            int r = row;
            int behind = want[row].length;
            Checks.place(what + ": column behind", () -> x.answerAnew(r, behind));
        }
        Checks.place(what + ": row behind", () -> x.answerAnew(want.length, 0));
    }

    private static void promise16Seat() {
        QueryHarbor x = new QueryHarbor();
        Checks.place("no source", () -> x.seat(6));
        Checks.place("no source", () -> x.seat(-1));
        Checks.due("seat", 0, x.seat(5));
        Checks.due("seat", 1, x.seat(0));
        Checks.due("the same source again", 2, x.seat(5));
        Checks.state("a fourth one", () -> x.seat(0));
        Checks.place("no source, and three seats", () -> x.seat(6));
        x.out(0, 0);
        Checks.due("three seats are asked", 0, x.ask(0, 0));
        Checks.due("three are taken", 3, x.taken(0));
        Checks.due("three are taken", 20, x.taken(1));
        Checks.due("three are taken", 13, x.taken(2));
    }

    private static void promise17Link() {
        QueryHarbor x = new QueryHarbor();
        Checks.place("no seats", () -> x.link(0, 0, 1, 0));
        x.seat(0);
        x.seat(2);
        x.seat(4);
        Checks.place("no seat", () -> x.link(3, 0, 1, 0));
        Checks.place("no seat", () -> x.link(-1, 0, 1, 0));
        Checks.place("no other", () -> x.link(0, 0, 3, 0));
        Checks.place("no other", () -> x.link(0, 0, -1, 0));
        Checks.place("no column", () -> x.link(0, 4, 1, 0));
        Checks.place("no column", () -> x.link(0, -1, 1, 0));
        Checks.place("no column in KEYS", () -> x.link(0, 0, 1, 2));
        Checks.place("no other column", () -> x.link(0, 0, 2, 4));
        Checks.place("no other column, and not higher", () -> x.link(1, 0, 0, 4));
        Checks.argument("lower", () -> x.link(1, 0, 0, 0));
        Checks.argument("the same", () -> x.link(1, 0, 1, 1));
        Checks.due("link", 1, x.link(0, 3, 1, 1));
        Checks.due("the same link again", 2, x.link(0, 3, 1, 1));
        Checks.due("link", 3, x.link(1, 0, 2, 3));
        Checks.state("a fourth one", () -> x.link(0, 0, 1, 0));
        Checks.argument("a fourth one, wrong", () -> x.link(1, 0, 0, 0));
        Checks.place("a fourth one, nowhere", () -> x.link(3, 0, 0, 0));
    }

    private static void promise17LinksHold() {
        QueryHarbor x = new QueryHarbor();
        x.add(4, 1, NULL, MISSING, 7);
        x.add(4, 2, NULL, MISSING, 8);
        x.add(5, 1, NULL, MISSING, 8);
        x.add(5, 3, NULL, MISSING, 7);
        x.seat(4);
        x.seat(5);
        x.out(0, 0);
        x.out(1, 0);
        x.link(0, 3, 1, 3);
        dueAnew("the same number", x, new int[][] {{1, 3}, {2, 1}});
        x.link(0, 0, 1, 0);
        dueAnew("both links", x, new int[0][]);
        x.clear();
        x.seat(4);
        x.seat(5);
        x.out(0, 0);
        x.link(0, 1, 1, 1);
        dueAnew("NULL is no number", x, new int[0][]);
        x.clear();
        x.seat(4);
        x.seat(5);
        x.out(0, 0);
        x.link(0, 2, 1, 2);
        dueAnew("nor is MISSING", x, new int[0][]);
    }

    private static void promise18Where() {
        QueryHarbor x = new QueryHarbor();
        Checks.place("no seat", () -> x.where(0, 0, 5, 0));
        x.seat(0);
        x.seat(3);
        Checks.place("no seat", () -> x.where(2, 0, 0, 0));
        Checks.place("no seat", () -> x.where(-1, 0, 0, 0));
        Checks.place("no column", () -> x.where(0, 4, 0, 0));
        Checks.place("no column", () -> x.where(0, -1, 0, 0));
        Checks.place("no column in KEYS", () -> x.where(1, 2, 0, 0));
        Checks.argument("kind above", () -> x.where(0, 0, 5, 0));
        Checks.argument("kind below", () -> x.where(0, 0, -1, 0));
        for (int kind = 0; kind <= 2; kind++) {
            int k = kind;
            Checks.argument("number above", () -> x.where(0, 0, k, 1000));
            Checks.argument("number below", () -> x.where(0, 0, k, -1000));
            Checks.argument("no number", () -> x.where(0, 0, k, NULL));
        }
        Checks.argument("number not 0", () -> x.where(0, 0, QueryHarbor.IS_NULL, 1));
        Checks.argument("number not 0", () -> x.where(0, 0, QueryHarbor.IS_MISSING, -1));
        Checks.due("where", 1, x.where(0, 0, QueryHarbor.SAME, 999));
        Checks.due("where", 2, x.where(1, 1, QueryHarbor.LESS, -999));
        Checks.due("where", 3, x.where(1, 0, QueryHarbor.IS_NULL, 0));
        Checks.due("where", 4, x.where(0, 3, QueryHarbor.IS_MISSING, 0));
        Checks.state("a fifth one", () -> x.where(0, 0, QueryHarbor.SAME, 0));
        Checks.argument("a fifth one, wrong", () -> x.where(0, 0, QueryHarbor.SAME, 1000));
        Checks.place("a fifth one, nowhere", () -> x.where(0, 4, QueryHarbor.SAME, 1000));
    }

    private static void dueWhere(int kind, int number, int... ids) {
        QueryHarbor x = new QueryHarbor();
        x.add(4, 0, MISSING, 0, 0);
        x.add(4, 1, NULL, 0, 0);
        x.add(4, 2, -999, 0, 0);
        x.add(4, 3, 4, 0, 0);
        x.add(4, 4, 5, 0, 0);
        x.add(4, 5, 6, 0, 0);
        x.add(4, 6, 999, 0, 0);
        x.seat(4);
        x.out(0, 0);
        x.where(0, 1, kind, number);
        int[][] want = new int[ids.length][];
        for (int i = 0; i < ids.length; i++) {
            want[i] = new int[] {ids[i]};
        }
        dueAnew("kind " + kind + " number " + number, x, want);
        Checks.due("asked: kind " + kind, ids.length, x.ask(0, 200));
        for (int i = 0; i < ids.length; i++) {
            Checks.due("asked: kind " + kind + " row " + i, ids[i], x.answer(i, 0));
        }
    }

    private static void promise18ConditionsHold() {
        dueWhere(QueryHarbor.SAME, 5, 4);
        dueWhere(QueryHarbor.SAME, 7);
        dueWhere(QueryHarbor.LESS, 5, 2, 3);
        dueWhere(QueryHarbor.LESS, 999, 2, 3, 4, 5);
        dueWhere(QueryHarbor.LESS, -999);
        dueWhere(QueryHarbor.MORE, 5, 5, 6);
        dueWhere(QueryHarbor.MORE, -999, 3, 4, 5, 6);
        dueWhere(QueryHarbor.MORE, 999);
        dueWhere(QueryHarbor.IS_NULL, 0, 1);
        dueWhere(QueryHarbor.IS_MISSING, 0, 0);
    }

    private static void promise19Out() {
        QueryHarbor x = new QueryHarbor();
        Checks.place("no seat", () -> x.out(0, 0));
        x.seat(0);
        x.seat(2);
        Checks.place("no seat", () -> x.out(2, 0));
        Checks.place("no seat", () -> x.out(-1, 0));
        Checks.place("no column", () -> x.out(0, 4));
        Checks.place("no column", () -> x.out(0, -1));
        Checks.place("no column in KEYS", () -> x.out(1, 2));
        Checks.due("out", 1, x.out(1, 1));
        Checks.due("out", 2, x.out(0, 3));
        Checks.due("the same again", 3, x.out(1, 1));
        Checks.state("a fourth one", () -> x.out(0, 0));
        Checks.place("a fourth one, nowhere", () -> x.out(0, 4));
        x.add(0, 1, 2, 3, 4);
        x.add(2, 5, 6, 0, 0);
        dueAnew("outputs in their order", x, new int[][] {{6, 4, 6}});
    }

    private static void promise20Limit() {
        QueryHarbor x = new QueryHarbor();
        for (int i = 0; i < 12; i++) {
            x.add(0, 100 + i, i % 3, 0, 0);
            x.add(1, 200 + i, 0, 0, 0);
        }
        x.seat(0);
        x.seat(1);
        x.out(0, 0);
        x.out(1, 0);
        Checks.argument("limit below", () -> shape(x, 0));
        Checks.argument("limit above", () -> shape(x, 41));
        Checks.due("as many as the first limit", 40, x.answersAnew());
        Checks.due("the last one", 103, x.answerAnew(39, 0));
        Checks.due("the last one", 203, x.answerAnew(39, 1));
        x.shape(2, false);
        dueAnew("limit 2", x, new int[][] {{100, 200}, {100, 201}});
        Checks.due("asked with the limit", 2, x.ask(0, 200));
        x.shape(1, false);
        Checks.due("limit 1", 1, x.answersAnew());
        x.shape(40, false);
        Checks.due("limit 40", 40, x.ask(200, 200));
    }

    private static long shape(QueryHarbor x, int limit) {
        x.shape(limit, true);
        return 0;
    }

    private static void promise20Groups() {
        QueryHarbor x = new QueryHarbor();
        x.add(4, 1, 5, 10, 0);
        x.add(4, 2, NULL, 20, 0);
        x.add(4, 3, MISSING, 30, 0);
        x.add(4, 4, -5, NULL, 0);
        x.add(4, 5, 5, MISSING, 0);
        x.add(4, 6, 5, -40, 0);
        x.add(4, 7, MISSING, 1, 0);
        x.add(4, 8, 0, MISSING, 0);
        x.seat(4);
        x.out(0, 1);
        x.out(0, 0);
        x.out(0, 2);
        x.shape(40, true);
        int[][] groups = {{MISSING, 2, 31}, {NULL, 1, 20}, {-5, 1, 0}, {0, 1, 0}, {5, 3, -30}};
        dueAnew("groups", x, groups);
        Checks.due("asked", 5, x.ask(0, 200));
        Checks.due("three columns", -30, x.answer(4, 2));
        x.shape(2, true);
        dueAnew("the first groups", x, new int[][] {{MISSING, 2, 31}, {NULL, 1, 20}});
        x.clear();
        x.seat(4);
        x.out(0, 1);
        x.shape(40, true);
        dueAnew("one output", x, new int[][] {{MISSING, 2, 0}, {NULL, 1, 0}, {-5, 1, -5}, {0, 1, 0}, {5, 3, 15}});
        x.seat(4);
        x.out(1, 0);
        dueAnew("groups of pairs", x,
                new int[][] {{MISSING, 16, 72}, {NULL, 8, 36}, {-5, 8, 36}, {0, 8, 36}, {5, 24, 108}});
        x.change(4, 4, 1, -999);
        x.change(4, 8, 1, -998);
        Checks.due("NULL is ahead of the least numbers", NULL, x.answerAnew(1, 0));
        Checks.due("the least number", -999, x.answerAnew(2, 0));
        Checks.due("the next one", -998, x.answerAnew(3, 0));
        x.where(0, 1, QueryHarbor.SAME, 9);
        dueAnew("no match, no group", x, new int[0][]);
    }

    private static void promise21Clear() {
        QueryHarbor x = new QueryHarbor();
        x.add(0, 1, 0, 0, 0);
        x.add(0, 2, 0, 0, 0);
        x.seat(0);
        x.seat(0);
        x.link(0, 0, 1, 0);
        x.where(0, 0, QueryHarbor.SAME, 1);
        x.out(0, 0);
        x.shape(1, true);
        x.ask(0, 200);
        Checks.due("clear", 2, x.clear());
        Checks.due("clear again", 0, x.clear());
        Checks.state("no seats", () -> x.ask(0, 0));
        Checks.place("no seats", () -> x.out(0, 0));
        Checks.due("the answer stays", 1, x.answers());
        Checks.due("a seat anew", 0, x.seat(0));
        Checks.state("no outputs", () -> x.ask(0, 0));
        Checks.state("no outputs", () -> x.answersAnew());
        x.seat(0);
        x.out(0, 0);
        dueAnew("no links, no conditions, no limit, no groups", x, new int[][] {{1}, {1}, {2}, {2}});
        x.out(1, 0);
        x.out(1, 0);
        Checks.state("three outputs again", () -> x.out(1, 0));
        for (int i = 1; i <= 3; i++) {
            Checks.due("links from the first one", i, x.link(0, 0, 1, 0));
            Checks.due("conditions from the first one", i, x.where(0, 0, 0, 0));
        }
    }

    private static void promise33AnswersAnew() {
        QueryHarbor x = new QueryHarbor();
        Checks.state("no seats", () -> x.answersAnew());
        x.seat(2);
        Checks.state("no outputs", () -> x.answersAnew());
        x.out(0, 1);
        Checks.due("no rows", 0, x.answersAnew());
        x.add(2, 9, 3, 0, 0);
        x.add(2, 4, 7, 0, 0);
        x.setBounds(1, 1, 0);
        x.fail(1, 20, false);
        dueAnew("stores do not matter; rows by their marks", x, new int[][] {{7}, {3}});
        Checks.due("no attempts", 20, x.fail(1, 0, false));
        Checks.due("no time", 0, x.now());
        Checks.due("no answer", 0, x.answers());
        Checks.due("no entry", 0, x.entries());
        Checks.due("no size", 10, x.size(2));
        x.setBounds(1, 20, 12);
        x.setPace(1, 1, 60);
        x.ask(0, 200);
        x.change(2, 4, 1, 8);
        Checks.due("from the cache", 2, x.ask(200, 200));
        Checks.due("as it was", 7, x.answer(0, 0));
        Checks.due("as it is", 8, x.answerAnew(0, 0));
        Checks.due("the answer stays", 7, x.answer(0, 0));
    }

    private static void promise34AnswerAnew() {
        QueryHarbor x = new QueryHarbor();
        x.add(4, 3, NULL, MISSING, 5);
        Checks.state("no seats, no row", () -> x.answerAnew(-1, 0));
        x.seat(4);
        Checks.state("no outputs", () -> x.answerAnew(0, 0));
        x.out(0, 1);
        x.out(0, 2);
        Checks.due("cell", NULL, x.answerAnew(0, 0));
        Checks.due("cell", MISSING, x.answerAnew(0, 1));
        Checks.place("no row", () -> x.answerAnew(-1, 0));
        Checks.place("no row", () -> x.answerAnew(1, 0));
        Checks.place("no column", () -> x.answerAnew(0, -1));
        Checks.place("no column", () -> x.answerAnew(0, 2));
        x.shape(40, true);
        Checks.due("sum", 0, x.answerAnew(0, 2));
        Checks.place("no column", () -> x.answerAnew(0, 3));
    }
}
