/** What several tests begin with: rows, and drafts of queries. */
final class Setups {
    private Setups() {
    }

    static QueryHarbor withRows(int source, int rows) {
        QueryHarbor x = new QueryHarbor();
        addRows(x, source, rows);
        return x;
    }

    /** Rows with the numbers 0 to rows - 1 in the columns 0 and 1. */
    static void addRows(QueryHarbor x, int source, int rows) {
        for (int i = 0; i < rows; i++) {
            x.add(source, i, i, 0, 0);
        }
    }

    static void draft(QueryHarbor x, int... sources) {
        x.clear();
        for (int source : sources) {
            x.seat(source);
        }
        x.out(0, 0);
    }
}
