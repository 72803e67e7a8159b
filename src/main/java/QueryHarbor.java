/**
 * A federation of three unlike stores with one query language. ../shared/DOC.md tells what it must do.
 *
 * All arrays and objects are made in the constructor and used again, so no call makes any.
 */
public final class QueryHarbor {
    public static final int NONE = -1;
    public static final int NULL = 5000, MISSING = 5001;
    public static final int ROWS = 0, KEYS = 1, DOCUMENTS = 2;
    public static final int SAME = 0, LESS = 1, MORE = 2, IS_NULL = 3, IS_MISSING = 4;
    public static final int HOW_CACHED = 0, HOW_BOUND = 1, HOW_SWITCHED = 2, HOW_SCANNED = 3;
    public static final int ADD = 0, CHANGE = 1, REMOVE = 2;

    private static final int STORES = 3, SOURCES = 6, SOURCES_OF_A_STORE = 2;
    private static final int COLUMNS = 4, COLUMNS_OF_KEYS = 2;
    private static final int MOST_ROWS = 12, MOST_ADDED = 60;
    private static final int MOST_NUMBER = 999, MOST_KEY = 99;
    private static final int MOST_SEATS = 3, MOST_LINKS = 3, MOST_CONDITIONS = 4, MOST_OUTPUTS = 3;
    private static final int MOST_ANSWERS = 40, GROUP_COLUMNS = 3;
    private static final int MOST_ENTRIES = 6, MOST_STEPS = 4;
    private static final int MOST_DELAY = 30, MOST_LAG = 60, MOST_QUOTA = 20, MOST_FAILURES = 20;
    private static final int MOST_LEASE = 200, MOST_FRESHNESS = 200, MOST_DEADLINE = 200, MOST_TICKS = 100;
    private static final int FIRST_DELAY = 1, FIRST_LEASE = 60, FIRST_SIZE = 10;
    private static final int WINDOW = 10, TRIES = 3, BATCH = 4;
    private static final int NEVER = 2147483647;
    private static final int[] FEES = {5, 1, 3};
    private static final int[] FREIGHTS = {1, 1, 2};

    private final Time time;
    private final Cache cache;
    private final Stores stores;
    private final Sources sources;
    private final Draft draft;
    private final Answer latest;
    private final Answer anew;
    private final Asker asker;
    private final Bundle bundle;

    public QueryHarbor() {
        time = new Time();
        cache = new Cache(time);
        stores = new Stores(time, cache);
        sources = new Sources(time, cache);
        draft = new Draft();
        latest = new Answer();
        anew = new Answer();
        asker = new Asker(stores, sources, cache, draft, latest);
        bundle = new Bundle(stores, sources);
    }

    // ---- sources

    public int add(int source, int a, int b, int c, int d)
            throws IndexOutOfBoundsException, IllegalArgumentException, IllegalStateException {
        needIndex(source, SOURCES);
        needArgument(rowFits(storeOf(source), a, b, c, d));
        needState(sources.hasRoom(source, a));
        return sources.addRow(source, a, b, c, d);
    }

    public int change(int source, int mark, int column, int cell)
            throws IndexOutOfBoundsException, IllegalArgumentException {
        needCell(source, mark, column);
        needArgument(mayChangeTo(storeOf(source), column, cell));
        return sources.changeCell(source, mark, column, cell);
    }

    public int remove(int source, int mark) throws IndexOutOfBoundsException {
        needIndex(source, SOURCES);
        needPlace(sources.rows[source].hasMark(mark));
        sources.removeRow(source, mark);
        return sources.rows[source].count;
    }

    public int count(int source) throws IndexOutOfBoundsException {
        needIndex(source, SOURCES);
        return sources.rows[source].count;
    }

    public int cell(int source, int mark, int column) throws IndexOutOfBoundsException {
        needCell(source, mark, column);
        Rows rows = sources.rows[source];
        return rows.cellAt(rows.placeOf(mark), column);
    }

    public int losses() {
        return sources.losses;
    }

    public int moment() {
        return time.moment;
    }

    // ---- stores and the time

    public int setPace(int store, int delay, int lag) throws IndexOutOfBoundsException, IllegalArgumentException {
        needIndex(store, STORES);
        needArgument(isIn(delay, 0, MOST_DELAY) && isIn(lag, 0, MOST_LAG));
        int before = stores.delays[store];
        stores.delays[store] = delay;
        cache.lags[store] = lag;
        return before;
    }

    public int setBounds(int store, int quota, int cap) throws IndexOutOfBoundsException, IllegalArgumentException {
        needIndex(store, STORES);
        needArgument(isIn(quota, 1, MOST_QUOTA) && isIn(cap, 0, MOST_ROWS));
        int before = stores.quotas[store];
        stores.quotas[store] = quota;
        stores.caps[store] = cap;
        return before;
    }

    public int setLease(int store, int lease) throws IndexOutOfBoundsException, IllegalArgumentException {
        needIndex(store, STORES);
        needArgument(isIn(lease, 0, MOST_LEASE));
        int before = cache.leases[store];
        cache.leases[store] = lease;
        cache.sweep();
        return before;
    }

    public int fail(int store, int attempts, boolean doesIt)
            throws IndexOutOfBoundsException, IllegalArgumentException {
        needIndex(store, STORES);
        needArgument(isIn(attempts, 0, MOST_FAILURES));
        int before = stores.failures[store];
        stores.failures[store] = attempts;
        stores.doesIt[store] = doesIt;
        return before;
    }

    public boolean forbid(int source, int store, boolean is) throws IndexOutOfBoundsException {
        needIndex(source, SOURCES);
        needIndex(store, STORES);
        int at = source * STORES + store;
        boolean before = stores.forbidden[at];
        stores.forbidden[at] = is;
        return before;
    }

    public int pass(int ticks) throws IllegalArgumentException {
        needArgument(isIn(ticks, 1, MOST_TICKS));
        stores.goOnTo(time.now + ticks);
        return time.now;
    }

    public int now() {
        return time.now;
    }

    // ---- the draft of a query

    public int seat(int source) throws IndexOutOfBoundsException, IllegalStateException {
        needIndex(source, SOURCES);
        needState(draft.seats < MOST_SEATS);
        return draft.addSeat(source);
    }

    public int link(int seat, int column, int other, int otherColumn)
            throws IndexOutOfBoundsException, IllegalArgumentException, IllegalStateException {
        needPlace(draft.hasColumn(seat, column) && draft.hasColumn(other, otherColumn));
        needArgument(other > seat);
        needState(draft.links < MOST_LINKS);
        return draft.addLink(seat, column, other, otherColumn);
    }

    public int where(int seat, int column, int kind, int number)
            throws IndexOutOfBoundsException, IllegalArgumentException, IllegalStateException {
        needPlace(draft.hasColumn(seat, column));
        needArgument(isCondition(kind, number));
        needState(draft.conditions < MOST_CONDITIONS);
        return draft.addCondition(seat, column, kind, number);
    }

    public int out(int seat, int column) throws IndexOutOfBoundsException, IllegalStateException {
        needPlace(draft.hasColumn(seat, column));
        needState(draft.outputs < MOST_OUTPUTS);
        return draft.addOutput(seat, column);
    }

    public void shape(int limit, boolean groups) throws IllegalArgumentException {
        needArgument(isIn(limit, 1, MOST_ANSWERS));
        draft.limit = limit;
        draft.groups = groups;
    }

    public int clear() {
        int before = draft.seats;
        draft.makeEmpty();
        return before;
    }

    // ---- asking

    public int ask(int fresh, int deadline) throws IllegalArgumentException, IllegalStateException {
        needArgument(isIn(fresh, 0, MOST_FRESHNESS) && isIn(deadline, 0, MOST_DEADLINE));
        needState(draft.isQuery());
        asker.begin(fresh, time.now + deadline, time.moment);
        for (int i = 0; i < draft.seats; i++) {
            asker.takeSeat(asker.nextSeat());
        }
        asker.end();
        return latest.count;
    }

    public int answers() {
        return latest.count;
    }

    public int answer(int row, int column) throws IndexOutOfBoundsException {
        needPlace(latest.hasCell(row, column));
        return latest.answerAt(row, column);
    }

    public int missing() {
        return latest.missing;
    }

    public int claims() {
        return latest.claims;
    }

    public int cost() {
        return latest.cost;
    }

    public int attempts() {
        return latest.attempts;
    }

    public int shipped() {
        return latest.shipped;
    }

    public int taken(int place) throws IndexOutOfBoundsException {
        needIndex(place, latest.places);
        return latest.taken[place] * 10 + latest.hows[place];
    }

    public int size(int source) throws IndexOutOfBoundsException {
        needIndex(source, SOURCES);
        return sources.sizes[source];
    }

    public int entries() {
        return cache.count;
    }

    // ---- all data as they are

    public int answersAnew() throws IllegalStateException {
        needState(draft.isQuery());
        makeAnew();
        return anew.count;
    }

    public int answerAnew(int row, int column) throws IllegalStateException, IndexOutOfBoundsException {
        needState(draft.isQuery());
        makeAnew();
        needPlace(anew.hasCell(row, column));
        return anew.answerAt(row, column);
    }

    private void makeAnew() {
        for (int seat = 0; seat < draft.seats; seat++) {
            anew.rows[seat].copy(sources.rows[draft.sources[seat]]);
            anew.keepWhatHolds(draft, seat);
        }
        anew.make(draft);
    }

    // ---- bundles

    public int step(int kind, int source, int a, int b, int c, int d)
            throws IndexOutOfBoundsException, IllegalArgumentException, IllegalStateException {
        needIndex(source, SOURCES);
        needArgument(isStep(kind, b, c, d));
        needState(bundle.count < MOST_STEPS);
        return bundle.addStep(kind, source, a, b, c, d);
    }

    public int run() throws IllegalStateException {
        needState(bundle.count > 0);
        return bundle.runSteps();
    }

    // ---- what calls need

    private static void needPlace(boolean is) {
        if (!is) {
            throw new IndexOutOfBoundsException();
        }
    }

    private static void needArgument(boolean is) {
        if (!is) {
            throw new IllegalArgumentException();
        }
    }

    private static void needState(boolean is) {
        if (!is) {
            throw new IllegalStateException();
        }
    }

    private static void needIndex(int index, int count) {
        needPlace(index >= 0 && index < count);
    }

    private void needCell(int source, int mark, int column) {
        needIndex(source, SOURCES);
        needIndex(column, columnsIn(storeOf(source)));
        needPlace(sources.rows[source].hasMark(mark));
    }

    private static boolean isIn(int number, int least, int most) {
        return number >= least && number <= most;
    }

    private static boolean isCondition(int kind, int number) {
        if (kind == IS_NULL || kind == IS_MISSING) {
            return number == 0;
        }
        return isIn(kind, SAME, MORE) && isIn(number, -MOST_NUMBER, MOST_NUMBER);
    }

    private static boolean isStep(int kind, int b, int c, int d) {
        switch (kind) {
            case ADD:
                return true;
            case CHANGE:
                return d == 0;
            case REMOVE:
                return b == 0 && c == 0 && d == 0;
            default:
                return false;
        }
    }

    // ---- what stores and sources are like

    private static int storeOf(int source) {
        return source / SOURCES_OF_A_STORE;
    }

    private static int columnsIn(int store) {
        return store == KEYS ? COLUMNS_OF_KEYS : COLUMNS;
    }

    private static boolean isKeyColumn(int store, int column) {
        return column == 0 && store != ROWS;
    }

    private static boolean isNumber(int cell) {
        return cell != NULL && cell != MISSING;
    }

    private static boolean cellFits(int store, int column, int cell) {
        if (column >= columnsIn(store)) {
            return cell == 0;
        }
        if (isKeyColumn(store, column)) {
            return isIn(cell, 0, MOST_KEY);
        }
        if (cell == MISSING) {
            return store == DOCUMENTS;
        }
        return cell == NULL || isIn(cell, -MOST_NUMBER, MOST_NUMBER);
    }

    private static boolean rowFits(int store, int a, int b, int c, int d) {
        return cellFits(store, 0, a) && cellFits(store, 1, b) && cellFits(store, 2, c) && cellFits(store, 3, d);
    }

    private static boolean mayChangeTo(int store, int column, int cell) {
        return !isKeyColumn(store, column) && cellFits(store, column, cell);
    }

    private static boolean canDo(int store, int column, int kind) {
        switch (store) {
            case ROWS:
                return kind != IS_MISSING;
            case KEYS:
                return column == 0 && kind <= MORE;
            default:
                return kind == SAME || kind == IS_MISSING || (column == 0 && kind <= MORE);
        }
    }

    private static boolean holdsFor(int kind, int number, int cell) {
        switch (kind) {
            case SAME:
                return cell == number;
            case LESS:
                return isNumber(cell) && cell < number;
            case MORE:
                return isNumber(cell) && cell > number;
            case IS_NULL:
                return cell == NULL;
            default:
                return cell == MISSING;
        }
    }

    /** Whether a condition follows from another one (the "giving" one) for the same column. */
    private static boolean follows(int kind, int number, int givingKind, int givingNumber) {
        if (kind == givingKind && number == givingNumber) {
            return true;
        }
        if (kind == LESS) {
            return (givingKind == LESS && givingNumber <= number) || (givingKind == SAME && givingNumber < number);
        }
        if (kind == MORE) {
            return (givingKind == MORE && givingNumber >= number) || (givingKind == SAME && givingNumber > number);
        }
        return false;
    }

    /** The tick and the moment of now, which all parts share. */
    private static final class Time {
        int now;
        int moment;
    }

    /** Rows of one source, in the order of their marks. */
    private static final class Rows {
        final int[] marks = new int[MOST_ROWS];
        final int[] cells = new int[MOST_ROWS * COLUMNS];
        int count;

        int placeOf(int mark) {
            for (int i = 0; i < count; i++) {
                if (marks[i] == mark) {
                    return i;
                }
            }
            return NONE;
        }

        boolean hasMark(int mark) {
            return placeOf(mark) != NONE;
        }

        int cellAt(int place, int column) {
            return isCell(place, column) ? cells[place * COLUMNS + column] : NULL;
        }

        void putCell(int place, int column, int cell) {
            if (isCell(place, column)) {
                cells[place * COLUMNS + column] = cell;
            }
        }

        /** Makes place for a row with this mark, whose cells are to be put then; NONE if it is full. */
        int makePlace(int mark) {
            if (count >= MOST_ROWS) {
                return NONE;
            }
            int place = count;
            count++;
            while (place > 0 && marks[place - 1] > mark) {
                moveRow(place - 1, place);
                place--;
            }
            marks[place] = mark;
            return place;
        }

        void dropPlace(int place) {
            if (place < 0 || place >= count) {
                return;
            }
            for (int i = place + 1; i < count; i++) {
                moveRow(i, i - 1);
            }
            count--;
        }

        void takeRow(Rows from, int place) {
            if (place < 0 || place >= from.count) {
                return;
            }
            int to = makePlace(from.marks[place]);
            for (int column = 0; column < COLUMNS; column++) {
                putCell(to, column, from.cellAt(place, column));
            }
        }

        void copy(Rows from) {
            count = from.count;
            System.arraycopy(from.marks, 0, marks, 0, MOST_ROWS);
            System.arraycopy(from.cells, 0, cells, 0, MOST_ROWS * COLUMNS);
        }

        private boolean isCell(int place, int column) {
            return place >= 0 && place < count && column >= 0 && column < COLUMNS;
        }

        private void moveRow(int from, int to) {
            marks[to] = marks[from];
            for (int column = 0; column < COLUMNS; column++) {
                cells[to * COLUMNS + column] = cells[from * COLUMNS + column];
            }
        }
    }

    /** What a scan has brought, with the conditions that were sent for it. */
    private static final class Entry {
        final Rows rows = new Rows();
        final int[] columns = new int[MOST_CONDITIONS];
        final int[] kinds = new int[MOST_CONDITIONS];
        final int[] numbers = new int[MOST_CONDITIONS];
        int conditions;
        int source;
        int store;
        int tick;
        /** The first moment for which the rows are right. */
        int from;
        /** The last moment for which they are right; NEVER as long as the source was not written again. */
        int to;
        /** The tick at which the first message comes that drops this entry. */
        int dropTick;

        void keepConditions(Draft draft, int seat) {
            conditions = 0;
            for (int i = 0; i < draft.conditions; i++) {
                if (draft.isSent(i, seat)) {
                    columns[conditions] = draft.whereColumns[i];
                    kinds[conditions] = draft.whereKinds[i];
                    numbers[conditions] = draft.whereNumbers[i];
                    conditions++;
                }
            }
        }

        boolean servesConditions(Draft draft, int seat) {
            for (int i = 0; i < conditions; i++) {
                if (!isGiven(i, draft, seat)) {
                    return false;
                }
            }
            return true;
        }

        private boolean isGiven(int condition, Draft draft, int seat) {
            for (int i = 0; i < draft.conditions; i++) {
                if (draft.isSent(i, seat) && draft.whereColumns[i] == columns[condition]
                        && follows(kinds[condition], numbers[condition], draft.whereKinds[i], draft.whereNumbers[i])) {
                    return true;
                }
            }
            return false;
        }
    }

    /**
     * The entries, in the order in which they were made; those behind the count are spare ones.
     *
     * A message drops just the entries that are there when the write is made that sends it, as those made later are of
     * its moment or a later one. So messages are not kept: each entry has the tick at which the first one comes.
     */
    private static final class Cache {
        final Time time;
        final Entry[] entries = new Entry[MOST_ENTRIES];
        final int[] lags = new int[STORES];
        final int[] leases = new int[STORES];
        int count;

        Cache(Time time) {
            this.time = time;
            for (int i = 0; i < MOST_ENTRIES; i++) {
                entries[i] = new Entry();
            }
            for (int store = 0; store < STORES; store++) {
                leases[store] = FIRST_LEASE;
            }
        }

        /** Drops what is to be dropped by now; what stays keeps its order. */
        void sweep() {
            int kept = 0;
            for (int i = 0; i < count; i++) {
                Entry entry = entries[i];
                if (entry.dropTick > time.now && time.now - entry.tick <= leases[entry.store]) {
                    entries[i] = entries[kept];
                    entries[kept] = entry;
                    kept++;
                }
            }
            count = kept;
        }

        /** Is told of each write, when the moment is the one that it has made; a sweep has to follow. */
        void hear(int source) {
            for (int i = 0; i < count; i++) {
                Entry entry = entries[i];
                if (entry.source == source) {
                    entry.to = Math.min(entry.to, time.moment - 1);
                    entry.dropTick = Math.min(entry.dropTick, time.now + lags[entry.store]);
                }
            }
        }

        /** The entry made last that can serve the seat, or null. */
        Entry serving(Draft draft, int seat, int fresh) {
            for (int i = count - 1; i >= 0; i--) {
                Entry entry = entries[i];
                if (entry.source == draft.sources[seat] && time.now - entry.tick <= fresh
                        && entry.servesConditions(draft, seat)) {
                    return entry;
                }
            }
            return null;
        }

        void keep(Draft draft, int seat, Rows rows, int from) {
            Entry entry = nextEntry();
            entry.source = draft.sources[seat];
            entry.store = storeOf(entry.source);
            entry.tick = time.now;
            entry.from = from;
            entry.to = NEVER;
            entry.dropTick = NEVER;
            entry.rows.copy(rows);
            entry.keepConditions(draft, seat);
        }

        private Entry nextEntry() {
            if (count < MOST_ENTRIES) {
                count++;
                return entries[count - 1];
            }
            Entry first = entries[0];
            for (int i = 1; i < MOST_ENTRIES; i++) {
                entries[i - 1] = entries[i];
            }
            entries[MOST_ENTRIES - 1] = first;
            return first;
        }
    }

    /** How the stores take attempts, and the time that these take. */
    private static final class Stores {
        final Time time;
        final Cache cache;
        final int[] delays = new int[STORES];
        final int[] quotas = new int[STORES];
        final int[] caps = new int[STORES];
        final int[] failures = new int[STORES];
        final boolean[] doesIt = new boolean[STORES];
        final boolean[] forbidden = new boolean[SOURCES * STORES];
        /** The window of the latest attempt of each store, and its attempts there. */
        final int[] windows = new int[STORES];
        final int[] used = new int[STORES];

        Stores(Time time, Cache cache) {
            this.time = time;
            this.cache = cache;
            for (int store = 0; store < STORES; store++) {
                delays[store] = FIRST_DELAY;
                quotas[store] = MOST_QUOTA;
                caps[store] = MOST_ROWS;
            }
        }

        void goOnTo(int tick) {
            time.now = tick;
            cache.sweep();
        }

        void awaitQuota(int store) {
            int window = time.now / WINDOW;
            if (windows[store] == window && used[store] >= quotas[store]) {
                goOnTo((window + 1) * WINDOW);
            }
        }

        /** Makes an attempt, the quota allowing it; returns whether it does not fail. */
        boolean attempt(int store) {
            int window = time.now / WINDOW;
            if (windows[store] != window) {
                windows[store] = window;
                used[store] = 0;
            }
            used[store]++;
            goOnTo(time.now + delays[store]);
            if (failures[store] > 0) {
                failures[store]--;
                return false;
            }
            return true;
        }
    }

    /** The rows of all sources, and what is written and believed of them. */
    private static final class Sources {
        final Time time;
        final Cache cache;
        final Rows[] rows = new Rows[SOURCES];
        final int[] added = new int[SOURCES];
        final int[] sizes = new int[SOURCES];
        /** The moment that the last write of each source has made. */
        final int[] written = new int[SOURCES];
        int losses;

        Sources(Time time, Cache cache) {
            this.time = time;
            this.cache = cache;
            for (int source = 0; source < SOURCES; source++) {
                rows[source] = new Rows();
                sizes[source] = FIRST_SIZE;
            }
        }

        boolean hasRoom(int source, int key) {
            if (rows[source].count >= MOST_ROWS) {
                return false;
            }
            return storeOf(source) == ROWS ? added[source] < MOST_ADDED : !rows[source].hasMark(key);
        }

        /** Adds a row that fits, for which there is room; returns its mark. */
        int addRow(int source, int a, int b, int c, int d) {
            int mark = a;
            if (storeOf(source) == ROWS) {
                mark = added[source];
                added[source]++;
            }
            int place = rows[source].makePlace(mark);
            rows[source].putCell(place, 0, a);
            rows[source].putCell(place, 1, asStored(source, b));
            rows[source].putCell(place, 2, c);
            rows[source].putCell(place, 3, d);
            write(source);
            return mark;
        }

        /** Changes a cell that may be changed so; returns what it had. */
        int changeCell(int source, int mark, int column, int cell) {
            int place = rows[source].placeOf(mark);
            int before = rows[source].cellAt(place, column);
            rows[source].putCell(place, column, asStored(source, cell));
            write(source);
            return before;
        }

        void removeRow(int source, int mark) {
            rows[source].dropPlace(rows[source].placeOf(mark));
            write(source);
        }

        void bringBack(int source, Rows from) {
            rows[source].takeRow(from, 0);
            write(source);
        }

        private void write(int source) {
            time.moment++;
            written[source] = time.moment;
            cache.hear(source);
            cache.sweep();
        }

        /** What is kept of a cell that is no key; counts a loss if KEYS makes it another one. */
        private int asStored(int source, int cell) {
            if (storeOf(source) != KEYS || !isNumber(cell)) {
                return cell;
            }
            int stored = Math.max(0, Math.min(MOST_KEY, cell));
            if (stored != cell) {
                losses++;
            }
            return stored;
        }
    }

    /**
     * The draft of a query.
     *
     * Each link has two ends, the even one with the lower seat, the odd one with the higher one behind it; so the other
     * end of the end e is e ^ 1.
     */
    private static final class Draft {
        final int[] sources = new int[MOST_SEATS];
        final int[] endSeats = new int[2 * MOST_LINKS];
        final int[] endColumns = new int[2 * MOST_LINKS];
        final int[] whereSeats = new int[MOST_CONDITIONS];
        final int[] whereColumns = new int[MOST_CONDITIONS];
        final int[] whereKinds = new int[MOST_CONDITIONS];
        final int[] whereNumbers = new int[MOST_CONDITIONS];
        final int[] outSeats = new int[MOST_OUTPUTS];
        final int[] outColumns = new int[MOST_OUTPUTS];
        int seats;
        int links;
        int conditions;
        int outputs;
        int limit = MOST_ANSWERS;
        boolean groups;

        boolean hasColumn(int seat, int column) {
            return seat >= 0 && seat < seats && column >= 0 && column < columnsIn(storeOf(sources[seat]));
        }

        boolean isQuery() {
            return seats > 0 && outputs > 0;
        }

        int addSeat(int source) {
            sources[seats] = source;
            seats++;
            return seats - 1;
        }

        int addLink(int seat, int column, int other, int otherColumn) {
            int end = 2 * links;
            endSeats[end] = seat;
            endColumns[end] = column;
            endSeats[end + 1] = other;
            endColumns[end + 1] = otherColumn;
            links++;
            return links;
        }

        int addCondition(int seat, int column, int kind, int number) {
            whereSeats[conditions] = seat;
            whereColumns[conditions] = column;
            whereKinds[conditions] = kind;
            whereNumbers[conditions] = number;
            conditions++;
            return conditions;
        }

        int addOutput(int seat, int column) {
            outSeats[outputs] = seat;
            outColumns[outputs] = column;
            outputs++;
            return outputs;
        }

        void makeEmpty() {
            seats = 0;
            links = 0;
            conditions = 0;
            outputs = 0;
            limit = MOST_ANSWERS;
            groups = false;
        }

        /** Whether a condition is one of the seat, and its store can do it. */
        boolean isSent(int condition, int seat) {
            return whereSeats[condition] == seat
                    && canDo(storeOf(sources[seat]), whereColumns[condition], whereKinds[condition]);
        }

        int sentOf(int seat) {
            int sent = 0;
            for (int i = 0; i < conditions; i++) {
                if (isSent(i, seat)) {
                    sent++;
                }
            }
            return sent;
        }

        boolean sentHold(int seat, Rows rows, int place) {
            for (int i = 0; i < conditions; i++) {
                if (isSent(i, seat)
                        && !holdsFor(whereKinds[i], whereNumbers[i], rows.cellAt(place, whereColumns[i]))) {
                    return false;
                }
            }
            return true;
        }

        boolean allHold(int seat, Rows rows, int place) {
            for (int i = 0; i < conditions; i++) {
                if (whereSeats[i] == seat
                        && !holdsFor(whereKinds[i], whereNumbers[i], rows.cellAt(place, whereColumns[i]))) {
                    return false;
                }
            }
            return true;
        }
    }

    /** The rows that the seats of a query have, the answer that is made of them, and what is told of that. */
    private static final class Answer {
        final Rows[] rows = new Rows[MOST_SEATS];
        final int[] cells = new int[MOST_ANSWERS * GROUP_COLUMNS];
        final int[] picked = new int[MOST_SEATS];
        final int[] taken = new int[MOST_SEATS];
        final int[] hows = new int[MOST_SEATS];
        int count;
        int columns;
        int missing;
        int claims = NONE;
        int cost;
        int attempts;
        int shipped;
        int places;

        Answer() {
            for (int seat = 0; seat < MOST_SEATS; seat++) {
                rows[seat] = new Rows();
            }
        }

        /** Forgets all that asking adds up; the rest is made anew at the end. */
        void begin() {
            for (int seat = 0; seat < MOST_SEATS; seat++) {
                rows[seat].count = 0;
            }
            missing = 0;
            cost = 0;
            attempts = 0;
            shipped = 0;
            places = 0;
        }

        boolean hasCell(int row, int column) {
            return row >= 0 && row < count && column >= 0 && column < columns;
        }

        int answerAt(int row, int column) {
            return cells[row * GROUP_COLUMNS + column];
        }

        void keepWhatHolds(Draft draft, int seat) {
            for (int i = rows[seat].count - 1; i >= 0; i--) {
                if (!draft.allHold(seat, rows[seat], i)) {
                    rows[seat].dropPlace(i);
                }
            }
        }

        /** Makes the answer of the rows that the seats have. */
        void make(Draft draft) {
            count = 0;
            columns = draft.groups ? GROUP_COLUMNS : draft.outputs;
            for (int a = 0; a < choices(draft, 0); a++) {
                picked[0] = a;
                for (int b = 0; b < choices(draft, 1); b++) {
                    picked[1] = b;
                    if (!linksHold(draft, 1)) {
                        continue;
                    }
                    for (int c = 0; c < choices(draft, 2); c++) {
                        picked[2] = c;
                        if (linksHold(draft, 2)) {
                            takeMatch(draft);
                        }
                    }
                }
            }
            count = Math.min(count, draft.limit);
        }

        /** A seat that the query does not have leaves one choice, so that the others still match. */
        private int choices(Draft draft, int seat) {
            return seat < draft.seats ? rows[seat].count : 1;
        }

        /** Whether the links hold whose higher seat this is; the lower ones are picked by then. */
        private boolean linksHold(Draft draft, int seat) {
            for (int end = 1; end < 2 * draft.links; end += 2) {
                if (draft.endSeats[end] != seat) {
                    continue;
                }
                int cell = pickedCell(seat, draft.endColumns[end]);
                if (!isNumber(cell) || cell != pickedCell(draft.endSeats[end - 1], draft.endColumns[end - 1])) {
                    return false;
                }
            }
            return true;
        }

        private int pickedCell(int seat, int column) {
            return rows[seat].cellAt(picked[seat], column);
        }

        private void takeMatch(Draft draft) {
            if (draft.groups) {
                int last = draft.outputs - 1;
                takeIntoGroup(pickedCell(draft.outSeats[0], draft.outColumns[0]),
                        pickedCell(draft.outSeats[last], draft.outColumns[last]));
            } else if (count < draft.limit) {
                for (int i = 0; i < draft.outputs; i++) {
                    cells[count * GROUP_COLUMNS + i] = pickedCell(draft.outSeats[i], draft.outColumns[i]);
                }
                count++;
            }
        }

        private void takeIntoGroup(int cell, int last) {
            int at = groupOf(cell) * GROUP_COLUMNS;
            cells[at + 1]++;
            if (isNumber(last)) {
                cells[at + 2] += last;
            }
        }

        /** The place of the group of this cell, made if it is not there yet; there are as many as a seat has rows. */
        private int groupOf(int cell) {
            int place = 0;
            while (place < count && rank(cells[place * GROUP_COLUMNS]) < rank(cell)) {
                place++;
            }
            int at = place * GROUP_COLUMNS;
            if (place < count && cells[at] == cell) {
                return place;
            }
            for (int i = count * GROUP_COLUMNS - 1; i >= at; i--) {
                cells[i + GROUP_COLUMNS] = cells[i];
            }
            cells[at] = cell;
            cells[at + 1] = 0;
            cells[at + 2] = 0;
            count++;
            return place;
        }

        /** Groups are ordered by this: what is missing, then NULL, then rising numbers. */
        private static int rank(int cell) {
            if (cell == MISSING) {
                return -MOST_NUMBER - 2;
            }
            return cell == NULL ? -MOST_NUMBER - 1 : cell;
        }
    }

    /** Asks the query of the draft, and tells the latest answer. */
    private static final class Asker {
        final Stores stores;
        final Sources sources;
        final Cache cache;
        final Draft draft;
        final Answer answer;
        /** The numbers to bind with, rising. */
        final int[] keys = new int[MOST_ROWS];
        int keyCount;
        int fresh;
        /** The last tick at which the deadline allows an attempt. */
        int lastTick;
        /** The moments for which the rows of all seats that were taken are right. */
        int from;
        int to;

        Asker(Stores stores, Sources sources, Cache cache, Draft draft, Answer answer) {
            this.stores = stores;
            this.sources = sources;
            this.cache = cache;
            this.draft = draft;
            this.answer = answer;
        }

        void begin(int freshness, int last, int moment) {
            fresh = freshness;
            lastTick = last;
            from = 0;
            to = moment;
            answer.begin();
        }

        void end() {
            answer.make(draft);
            answer.claims = answer.missing == 0 && from <= to ? to : NONE;
        }

        /** The seat to be taken next; there has to be one. */
        int nextSeat() {
            int best = 0;
            int bestGuess = NEVER;
            boolean bestLinked = false;
            for (int seat = 0; seat < draft.seats; seat++) {
                if (isTaken(seat)) {
                    continue;
                }
                boolean linked = endOf(seat) != NONE;
                int guess = guessOf(seat);
                if ((linked && !bestLinked) || (linked == bestLinked && guess < bestGuess)) {
                    best = seat;
                    bestGuess = guess;
                    bestLinked = linked;
                }
            }
            return best;
        }

        void takeSeat(int seat) {
            int source = draft.sources[seat];
            Entry entry = cache.serving(draft, seat, fresh);
            if (entry != null) {
                answer.rows[seat].copy(entry.rows);
                narrow(entry.from, entry.to);
                close(seat, HOW_CACHED);
                return;
            }
            narrow(sources.written[source], to);
            int how = HOW_SCANNED;
            int end = endOf(seat);
            if (end != NONE && mayBind(source, end)) {
                int scanCost = scanCost(seat);
                gatherKeys(end ^ 1);
                if (bindCost(storeOf(source)) < scanCost) {
                    how = bind(seat, draft.endColumns[end], answer.cost + scanCost);
                }
            }
            if (how != HOW_BOUND) {
                scan(seat);
            }
            close(seat, how);
        }

        private void close(int seat, int how) {
            answer.keepWhatHolds(draft, seat);
            answer.taken[answer.places] = seat;
            answer.hows[answer.places] = how;
            answer.places++;
        }

        private void narrow(int first, int last) {
            from = Math.max(from, first);
            to = Math.min(to, last);
        }

        private boolean isTaken(int seat) {
            for (int i = 0; i < answer.places; i++) {
                if (answer.taken[i] == seat) {
                    return true;
                }
            }
            return false;
        }

        /** The seat's end of its first link with a seat that was taken, or NONE. */
        private int endOf(int seat) {
            for (int end = 0; end < 2 * draft.links; end++) {
                if (draft.endSeats[end] == seat && isTaken(draft.endSeats[end ^ 1])) {
                    return end;
                }
            }
            return NONE;
        }

        private int guessOf(int seat) {
            return Math.max(1, sources.sizes[draft.sources[seat]] >> draft.sentOf(seat));
        }

        private boolean mayBind(int source, int end) {
            int store = storeOf(source);
            int other = draft.sources[draft.endSeats[end ^ 1]];
            return canDo(store, draft.endColumns[end], SAME) && !stores.forbidden[other * STORES + store];
        }

        private int bindCost(int store) {
            int batches = (keyCount + BATCH - 1) / BATCH;
            return batches * FEES[store] + keyCount * FREIGHTS[store];
        }

        private int scanCost(int seat) {
            int store = storeOf(draft.sources[seat]);
            return FEES[store] + guessOf(seat) * FREIGHTS[store];
        }

        private void gatherKeys(int end) {
            Rows rows = answer.rows[draft.endSeats[end]];
            keyCount = 0;
            for (int i = 0; i < rows.count; i++) {
                int cell = rows.cellAt(i, draft.endColumns[end]);
                if (isNumber(cell) && !isKey(cell, 0, keyCount)) {
                    addKey(cell);
                }
            }
        }

        private void addKey(int key) {
            int place = keyCount;
            while (place > 0 && keys[place - 1] > key) {
                keys[place] = keys[place - 1];
                place--;
            }
            keys[place] = key;
            keyCount++;
        }

        private boolean isKey(int cell, int first, int behind) {
            for (int i = first; i < behind; i++) {
                if (keys[i] == cell) {
                    return true;
                }
            }
            return false;
        }

        /** Sends the keys; returns HOW_SWITCHED if a scan is to be made now, as the cost has come to the most. */
        private int bind(int seat, int column, int most) {
            int store = storeOf(draft.sources[seat]);
            for (int first = 0; first < keyCount; first += BATCH) {
                if (!request(store)) {
                    open(seat);
                    return HOW_BOUND;
                }
                int behind = Math.min(first + BATCH, keyCount);
                receive(seat, column, first, behind);
                if (behind < keyCount && answer.cost >= most) {
                    return HOW_SWITCHED;
                }
            }
            return HOW_BOUND;
        }

        /** Scans; what a bind has brought before is dropped. */
        private void scan(int seat) {
            int source = draft.sources[seat];
            answer.rows[seat].count = 0;
            answer.missing &= ~(1 << seat);
            if (!request(storeOf(source))) {
                open(seat);
            } else if (receive(seat, NONE, 0, 0)) {
                if (draft.sentOf(seat) == 0) {
                    sources.sizes[source] = answer.rows[seat].count;
                }
                cache.keep(draft, seat, answer.rows[seat], sources.written[source]);
            }
        }

        private void open(int seat) {
            answer.missing |= 1 << seat;
        }

        /** Returns whether the request has an answer. */
        private boolean request(int store) {
            for (int i = 0; i < TRIES; i++) {
                stores.awaitQuota(store);
                if (stores.time.now > lastTick) {
                    return false;
                }
                answer.attempts++;
                answer.cost += FEES[store];
                if (stores.attempt(store)) {
                    return true;
                }
            }
            return false;
        }

        /**
         * Takes the rows of an answer: those for which the conditions that are sent hold, and whose cell in the column,
         * unless that is NONE, is one of the keys from the first one on. Returns whether the answer was not cut.
         */
        private boolean receive(int seat, int column, int first, int behind) {
            int source = draft.sources[seat];
            int store = storeOf(source);
            Rows all = sources.rows[source];
            int came = 0;
            for (int i = 0; i < all.count; i++) {
                if (!draft.sentHold(seat, all, i)
                        || (column != NONE && !isKey(all.cellAt(i, column), first, behind))) {
                    continue;
                }
                if (came >= stores.caps[store]) {
                    open(seat);
                    break;
                }
                answer.rows[seat].takeRow(all, i);
                answer.shipped++;
                answer.cost += FREIGHTS[store];
                came++;
            }
            return (answer.missing & (1 << seat)) == 0;
        }
    }

    /** The steps of the bundle, and what is needed to take them back. */
    private static final class Bundle {
        final Stores stores;
        final Sources sources;
        final int[] kinds = new int[MOST_STEPS];
        final int[] targets = new int[MOST_STEPS];
        final int[] cells = new int[MOST_STEPS * COLUMNS];
        final boolean[] done = new boolean[MOST_STEPS];
        /** The marks that the rows of the steps have, and the cells that were changed. */
        final int[] marks = new int[MOST_STEPS];
        final int[] before = new int[MOST_STEPS];
        /** The row that each step has removed, alone. */
        final Rows[] removed = new Rows[MOST_STEPS];
        int count;

        Bundle(Stores stores, Sources sources) {
            this.stores = stores;
            this.sources = sources;
            for (int i = 0; i < MOST_STEPS; i++) {
                removed[i] = new Rows();
            }
        }

        int addStep(int kind, int source, int a, int b, int c, int d) {
            kinds[count] = kind;
            targets[count] = source;
            int at = count * COLUMNS;
            cells[at] = a;
            cells[at + 1] = b;
            cells[at + 2] = c;
            cells[at + 3] = d;
            done[count] = false;
            count++;
            return count;
        }

        /** Returns NONE, or the place of the step that ended the bundle. */
        int runSteps() {
            int steps = count;
            count = 0;
            for (int i = 0; i < steps; i++) {
                if (!request(i)) {
                    takeAllBack(i);
                    return i;
                }
            }
            return NONE;
        }

        /** Returns whether the step is done, and the request has an answer. */
        private boolean request(int i) {
            int store = storeOf(targets[i]);
            for (int tries = 0; tries < TRIES; tries++) {
                stores.awaitQuota(store);
                boolean answered = stores.attempt(store);
                if (!done[i] && (answered || stores.doesIt[store]) && canStep(i)) {
                    doStep(i);
                }
                if (answered) {
                    return done[i];
                }
            }
            return false;
        }

        private boolean canStep(int i) {
            int source = targets[i];
            int store = storeOf(source);
            int at = i * COLUMNS;
            switch (kinds[i]) {
                case ADD:
                    return rowFits(store, cells[at], cells[at + 1], cells[at + 2], cells[at + 3])
                            && sources.hasRoom(source, cells[at]);
                case CHANGE:
                    return sources.rows[source].hasMark(cells[at])
                            && isIn(cells[at + 1], 0, columnsIn(store) - 1)
                            && mayChangeTo(store, cells[at + 1], cells[at + 2]);
                default:
                    return sources.rows[source].hasMark(cells[at]);
            }
        }

        /** Does a step that can be done, and keeps what is needed to take it back. */
        private void doStep(int i) {
            int source = targets[i];
            int at = i * COLUMNS;
            marks[i] = cells[at];
            done[i] = true;
            switch (kinds[i]) {
                case ADD:
                    marks[i] = sources.addRow(source, cells[at], cells[at + 1], cells[at + 2], cells[at + 3]);
                    break;
                case CHANGE:
                    before[i] = sources.changeCell(source, marks[i], cells[at + 1], cells[at + 2]);
                    break;
                default:
                    removed[i].count = 0;
                    removed[i].takeRow(sources.rows[source], sources.rows[source].placeOf(marks[i]));
                    sources.removeRow(source, marks[i]);
                    break;
            }
        }

        private void takeAllBack(int last) {
            for (int i = last; i >= 0; i--) {
                if (done[i]) {
                    takeBack(i);
                }
            }
        }

        private void takeBack(int i) {
            int source = targets[i];
            switch (kinds[i]) {
                case ADD:
                    sources.removeRow(source, marks[i]);
                    break;
                case CHANGE:
                    sources.changeCell(source, marks[i], cells[i * COLUMNS + 1], before[i]);
                    break;
                default:
                    sources.bringBack(source, removed[i]);
                    break;
            }
        }
    }
}
