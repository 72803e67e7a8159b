import java.util.ArrayList;
import java.util.Arrays;
import java.util.Collections;
import java.util.HashSet;
import java.util.List;
import java.util.Set;
import java.util.TreeMap;
import java.util.TreeSet;

/**
 * The document written a second time, plainly and slowly, to compare the program with: time goes tick by tick, messages
 * are kept, the data of each moment are kept, and what can be done is tried out.
 */
public final class Model {
    private static final int NULL = 5000;
    private static final int MISSING = 5001;
    private static final int[] FEE = {5, 1, 3};
    private static final int[] FREIGHT = {1, 1, 2};

    private record Message(int source, int moment, int tick) {
    }

    private record Condition(int seat, int column, int kind, int number) {
    }

    private record Link(int seat, int column, int other, int otherColumn) {
    }

    private record Output(int seat, int column) {
    }

    private record Step(int kind, int source, int a, int b, int c, int d) {
    }

    private record Entry(int source, List<Condition> conditions, TreeMap<Integer, int[]> rows, int tick, int moment) {
    }

    /** The rows that a seat has, and the moment at which they came. */
    private record Held(int source, TreeMap<Integer, int[]> rows, int moment) {
    }

    /** Takes back what a step has done. */
    private interface Undo {
        void back();
    }

    private final List<TreeMap<Integer, int[]>> data = new ArrayList<>();
    private final int[] added = new int[6];
    private final int[] sizes = {10, 10, 10, 10, 10, 10};
    private int losses = 0;

    /** The source that the write has changed which made the moment i + 1, and the data as they were at each moment. */
    private final List<Integer> writes = new ArrayList<>();
    private final List<List<TreeMap<Integer, int[]>>> history = new ArrayList<>();

    private int now = 0;
    private final int[] delay = {1, 1, 1};
    private final int[] lag = {0, 0, 0};
    private final int[] quota = {20, 20, 20};
    private final int[] cap = {12, 12, 12};
    private final int[] lease = {60, 60, 60};
    private final int[] failing = {0, 0, 0};
    private final boolean[] doesIt = {false, false, false};
    private final Set<String> forbidden = new HashSet<>();
    private final List<int[]> attemptsMade = new ArrayList<>();

    private List<Message> messages = new ArrayList<>();
    private final List<Entry> cache = new ArrayList<>();

    private final List<Integer> seats = new ArrayList<>();
    private final List<Link> links = new ArrayList<>();
    private final List<Condition> conditions = new ArrayList<>();
    private final List<Output> outputs = new ArrayList<>();
    private int limit = 40;
    private boolean groups = false;
    private final List<Step> bundle = new ArrayList<>();

    private List<int[]> answer = new ArrayList<>();
    private int missing = 0;
    private int claims = -1;
    private int cost = 0;
    private int attempts = 0;
    private int shipped = 0;
    private List<Integer> taken = new ArrayList<>();

    public Model() {
        for (int i = 0; i < 6; i++) {
            data.add(new TreeMap<>());
        }
        remember();
    }

    // ---- sources

    public int add(int source, int a, int b, int c, int d) {
        source(source);
        int store = store(source);
        int[] row = {a, b, c, d};
        for (int i = 0; i < 4; i++) {
            legal(source, i, row[i]);
        }
        TreeMap<Integer, int[]> rows = data.get(source);
        if (rows.size() == 12 || (store == 0 && added[source] == 60) || (store != 0 && rows.containsKey(a))) {
            throw new IllegalStateException();
        }
        int mark = store == 0 ? added[source]++ : a;
        if (store == 1) {
            row[1] = squeeze(b);
        }
        rows.put(mark, row);
        written(source);
        return mark;
    }

    public int change(int source, int mark, int column, int cell) {
        int before = cell(source, mark, column);
        if (column == 0 && store(source) != 0) {
            throw new IllegalArgumentException();
        }
        legal(source, column, cell);
        data.get(source).get(mark)[column] = store(source) == 1 ? squeeze(cell) : cell;
        written(source);
        return before;
    }

    public int remove(int source, int mark) {
        cell(source, mark, 0);
        data.get(source).remove(mark);
        written(source);
        return data.get(source).size();
    }

    public int count(int source) {
        source(source);
        return data.get(source).size();
    }

    public int cell(int source, int mark, int column) {
        source(source);
        if (!data.get(source).containsKey(mark) || column < 0 || column >= columns(source)) {
            throw new IndexOutOfBoundsException();
        }
        return data.get(source).get(mark)[column];
    }

    public int losses() {
        return losses;
    }

    public int moment() {
        return writes.size();
    }

    private static void source(int source) {
        if (source < 0 || source > 5) {
            throw new IndexOutOfBoundsException();
        }
    }

    private static void storeThere(int store) {
        if (store < 0 || store > 2) {
            throw new IndexOutOfBoundsException();
        }
    }

    private static int store(int source) {
        return source / 2;
    }

    private static int columns(int source) {
        return source == 2 || source == 3 ? 2 : 4;
    }

    private static boolean number(int cell) {
        return cell != NULL && cell != MISSING;
    }

    private static void legal(int source, int column, int cell) {
        boolean small = cell >= -999 && cell <= 999;
        boolean key = cell >= 0 && cell <= 99;
        boolean fine;
        if (store(source) == 0) {
            fine = small || cell == NULL;
        } else if (store(source) == 1) {
            fine = column == 0 ? key : column == 1 ? small || cell == NULL : cell == 0;
        } else {
            fine = column == 0 ? key : small || cell == NULL || cell == MISSING;
        }
        if (!fine) {
            throw new IllegalArgumentException();
        }
    }

    private int squeeze(int value) {
        if (value == NULL || (value >= 0 && value <= 99)) {
            return value;
        }
        losses++;
        return value < 0 ? 0 : 99;
    }

    private void written(int source) {
        writes.add(source);
        remember();
        messages.add(new Message(source, writes.size(), now + lag[store(source)]));
        drop();
    }

    private void remember() {
        List<TreeMap<Integer, int[]>> copy = new ArrayList<>();
        for (TreeMap<Integer, int[]> rows : data) {
            copy.add(copyOf(rows));
        }
        history.add(copy);
    }

    private static TreeMap<Integer, int[]> copyOf(TreeMap<Integer, int[]> rows) {
        TreeMap<Integer, int[]> copy = new TreeMap<>();
        rows.forEach((mark, row) -> copy.put(mark, row.clone()));
        return copy;
    }

    // ---- stores and the time

    public int setPace(int store, int newDelay, int newLag) {
        storeThere(store);
        range(newDelay, 0, 30);
        range(newLag, 0, 60);
        int before = delay[store];
        delay[store] = newDelay;
        lag[store] = newLag;
        return before;
    }

    public int setBounds(int store, int newQuota, int newCap) {
        storeThere(store);
        range(newQuota, 1, 20);
        range(newCap, 0, 12);
        int before = quota[store];
        quota[store] = newQuota;
        cap[store] = newCap;
        return before;
    }

    public int setLease(int store, int newLease) {
        storeThere(store);
        range(newLease, 0, 200);
        int before = lease[store];
        lease[store] = newLease;
        drop();
        return before;
    }

    public int fail(int store, int times, boolean does) {
        storeThere(store);
        range(times, 0, 20);
        int before = failing[store];
        failing[store] = times;
        doesIt[store] = does;
        return before;
    }

    public boolean forbid(int source, int store, boolean is) {
        source(source);
        storeThere(store);
        String pair = source + " to " + store;
        return is ? !forbidden.add(pair) : forbidden.remove(pair);
    }

    public int pass(int ticks) {
        range(ticks, 1, 100);
        goOn(ticks);
        return now;
    }

    public int now() {
        return now;
    }

    private static void range(int number, int least, int most) {
        if (number < least || number > most) {
            throw new IllegalArgumentException();
        }
    }

    private void goOn(int ticks) {
        for (int i = 0; i < ticks; i++) {
            now++;
            drop();
        }
    }

    private void drop() {
        List<Message> later = new ArrayList<>();
        for (Message message : messages) {
            if (message.tick <= now) {
                cache.removeIf(entry -> entry.source == message.source && entry.moment < message.moment);
            } else {
                later.add(message);
            }
        }
        messages = later;
        cache.removeIf(entry -> now - entry.tick > lease[store(entry.source)]);
    }

    /** Null if there is none, else whether the attempt did not fail; no deadline if that is negative. */
    private Boolean attempt(int store, int asked, int deadline) {
        long inWindow = attemptsMade.stream().filter(made -> made[0] == store && made[1] / 10 == now / 10).count();
        if (inWindow >= quota[store]) {
            goOn(10 - now % 10);
        }
        if (deadline >= 0 && now - asked > deadline) {
            return null;
        }
        attemptsMade.add(new int[] {store, now});
        goOn(delay[store]);
        if (failing[store] == 0) {
            return true;
        }
        failing[store]--;
        return false;
    }

    // ---- the draft of a query

    public int seat(int source) {
        source(source);
        room(seats, 3);
        seats.add(source);
        return seats.size() - 1;
    }

    public int link(int seat, int column, int other, int otherColumn) {
        seatColumn(seat, column);
        seatColumn(other, otherColumn);
        if (other <= seat) {
            throw new IllegalArgumentException();
        }
        room(links, 3);
        links.add(new Link(seat, column, other, otherColumn));
        return links.size();
    }

    public int where(int seat, int column, int kind, int number) {
        seatColumn(seat, column);
        range(kind, 0, 4);
        range(number, kind > 2 ? 0 : -999, kind > 2 ? 0 : 999);
        room(conditions, 4);
        conditions.add(new Condition(seat, column, kind, number));
        return conditions.size();
    }

    public int out(int seat, int column) {
        seatColumn(seat, column);
        room(outputs, 3);
        outputs.add(new Output(seat, column));
        return outputs.size();
    }

    public void shape(int newLimit, boolean newGroups) {
        range(newLimit, 1, 40);
        limit = newLimit;
        groups = newGroups;
    }

    public int clear() {
        int before = seats.size();
        seats.clear();
        links.clear();
        conditions.clear();
        outputs.clear();
        limit = 40;
        groups = false;
        return before;
    }

    private void seatColumn(int seat, int column) {
        if (seat < 0 || seat >= seats.size() || column < 0 || column >= columns(seats.get(seat))) {
            throw new IndexOutOfBoundsException();
        }
    }

    private static void room(List<?> list, int most) {
        if (list.size() >= most) {
            throw new IllegalStateException();
        }
    }

    // ---- asking

    public int ask(int fresh, int deadline) {
        range(fresh, 0, 200);
        range(deadline, 0, 200);
        drafted();
        missing = 0;
        cost = 0;
        attempts = 0;
        shipped = 0;
        taken = new ArrayList<>();
        int asked = now;
        TreeMap<Integer, Held> held = new TreeMap<>();
        while (held.size() < seats.size()) {
            int seat = next(held);
            take(seat, held, fresh, asked, deadline);
        }
        List<TreeMap<Integer, int[]>> rows = new ArrayList<>();
        held.forEach((seat, has) -> rows.add(has.rows));
        answer = answerOf(rows);
        claims = missing == 0 ? claimOf(held) : -1;
        return answer.size();
    }

    public int answers() {
        return answer.size();
    }

    public int answer(int row, int column) {
        return cellOf(answer, row, column);
    }

    public int missing() {
        return missing;
    }

    public int claims() {
        return claims;
    }

    public int cost() {
        return cost;
    }

    public int attempts() {
        return attempts;
    }

    public int shipped() {
        return shipped;
    }

    public int taken(int place) {
        if (place < 0 || place >= taken.size()) {
            throw new IndexOutOfBoundsException();
        }
        return taken.get(place);
    }

    public int size(int source) {
        source(source);
        return sizes[source];
    }

    public int entries() {
        return cache.size();
    }

    private void drafted() {
        if (seats.isEmpty() || outputs.isEmpty()) {
            throw new IllegalStateException();
        }
    }

    private static int cellOf(List<int[]> rows, int row, int column) {
        if (row < 0 || row >= rows.size() || column < 0 || column >= rows.get(row).length) {
            throw new IndexOutOfBoundsException();
        }
        return rows.get(row)[column];
    }

    private static boolean can(int store, int column, int kind) {
        String key = "SLM";
        String all = store == 0 ? "SLMN" : store == 1 ? "" : "S?";
        char wanted = "SLMN?".charAt(kind);
        return all.indexOf(wanted) >= 0 || (column == 0 && key.indexOf(wanted) >= 0);
    }

    private List<Condition> sent(int seat) {
        List<Condition> sent = new ArrayList<>();
        for (Condition condition : conditions) {
            if (condition.seat == seat && can(store(seats.get(seat)), condition.column, condition.kind)) {
                sent.add(condition);
            }
        }
        return sent;
    }

    private static boolean holds(Condition condition, int[] row) {
        int cell = row[condition.column];
        switch (condition.kind) {
            case 3:
                return cell == NULL;
            case 4:
                return cell == MISSING;
            default:
                return number(cell) && Integer.signum(Integer.compare(cell, condition.number))
                        == (condition.kind == 0 ? 0 : condition.kind == 1 ? -1 : 1);
        }
    }

    private int guess(int seat) {
        int guess = sizes[seats.get(seat)];
        for (int i = 0; i < sent(seat).size(); i++) {
            guess = guess / 2;
        }
        return Math.max(guess, 1);
    }

    private List<Link> linksToTaken(int seat, TreeMap<Integer, Held> held) {
        List<Link> to = new ArrayList<>();
        for (Link link : links) {
            if (link.seat == seat && held.containsKey(link.other)) {
                to.add(link);
            } else if (link.other == seat && held.containsKey(link.seat)) {
                to.add(new Link(seat, link.otherColumn, link.seat, link.column));
            }
        }
        return to;
    }

    private int next(TreeMap<Integer, Held> held) {
        List<Integer> left = new ArrayList<>();
        List<Integer> linked = new ArrayList<>();
        for (int seat = 0; seat < seats.size(); seat++) {
            if (!held.containsKey(seat)) {
                left.add(seat);
                if (!linksToTaken(seat, held).isEmpty()) {
                    linked.add(seat);
                }
            }
        }
        List<Integer> of = linked.isEmpty() ? left : linked;
        return Collections.min(of, (a, b) -> guess(a) != guess(b) ? guess(a) - guess(b) : a - b);
    }

    private void take(int seat, TreeMap<Integer, Held> held, int fresh, int asked, int deadline) {
        int source = seats.get(seat);
        int store = store(source);
        for (int i = cache.size() - 1; i >= 0; i--) {
            Entry entry = cache.get(i);
            if (entry.source == source && now - entry.tick <= fresh && given(entry.conditions, sent(seat))) {
                keep(seat, 0, new Held(source, copyOf(entry.rows), entry.moment), held);
                return;
            }
        }
        TreeMap<Integer, int[]> rows = new TreeMap<>();
        int how = 3;
        List<Link> to = linksToTaken(seat, held);
        if (!to.isEmpty()) {
            Link link = to.get(0);
            int other = seats.get(link.other);
            if (can(store, link.column, 0) && !forbidden.contains(other + " to " + store)) {
                TreeSet<Integer> keys = new TreeSet<>();
                held.get(link.other).rows.values().forEach(row -> keys.add(row[link.otherColumn]));
                keys.remove(NULL);
                keys.remove(MISSING);
                int scanCost = FEE[store] + FREIGHT[store] * guess(seat);
                int bindCost = FEE[store] * ((keys.size() + 3) / 4) + FREIGHT[store] * keys.size();
                if (bindCost < scanCost) {
                    how = bind(seat, link.column, new ArrayList<>(keys), scanCost, rows, asked, deadline);
                }
            }
        }
        if (how != 1) {
            rows.clear();
            scan(seat, rows, asked, deadline);
        }
        keep(seat, how, new Held(source, rows, moment()), held);
    }

    private void keep(int seat, int how, Held has, TreeMap<Integer, Held> held) {
        for (Condition condition : conditions) {
            if (condition.seat == seat) {
                has.rows.values().removeIf(row -> !holds(condition, row));
            }
        }
        held.put(seat, has);
        taken.add(10 * seat + how);
    }

    private int bind(int seat, int column, List<Integer> keys, int scanCost, TreeMap<Integer, int[]> rows, int asked,
            int deadline) {
        int before = cost;
        int openBefore = missing;
        for (int first = 0; first < keys.size(); first += 4) {
            List<Integer> batch = keys.subList(first, Math.min(keys.size(), first + 4));
            List<int[]> some = request(seat, column, batch, rows, asked, deadline);
            if (some == null) {
                return 1;
            }
            boolean last = first + 4 >= keys.size();
            if (!last && cost - before >= scanCost) {
                missing = openBefore;
                return 2;
            }
        }
        return 1;
    }

    private void scan(int seat, TreeMap<Integer, int[]> rows, int asked, int deadline) {
        List<int[]> came = request(seat, -1, null, rows, asked, deadline);
        if (came == null || (missing >> seat) % 2 == 1) {
            return;
        }
        int source = seats.get(seat);
        if (sent(seat).isEmpty()) {
            sizes[source] = came.size();
        }
        if (cache.size() == 6) {
            cache.remove(0);
        }
        cache.add(new Entry(source, sent(seat), copyOf(rows), now, moment()));
    }

    /** The rows of the answer, which are put to the others, too; null if there is no answer. */
    private List<int[]> request(int seat, int column, List<Integer> keys, TreeMap<Integer, int[]> rows, int asked,
            int deadline) {
        int store = store(seats.get(seat));
        Boolean came = false;
        for (int i = 0; i < 3 && came != null && !came; i++) {
            came = attempt(store, asked, deadline);
            if (came != null) {
                attempts++;
                cost += FEE[store];
            }
        }
        if (came == null || !came) {
            missing |= 1 << seat;
            return null;
        }
        List<int[]> some = new ArrayList<>();
        data.get(seats.get(seat)).forEach((mark, row) -> {
            boolean wanted = sent(seat).stream().allMatch(condition -> holds(condition, row))
                    && (keys == null || keys.contains(row[column]));
            if (wanted && some.size() == cap[store]) {
                missing |= 1 << seat;
            } else if (wanted) {
                some.add(row);
                rows.put(mark, row.clone());
            }
        });
        shipped += some.size();
        cost += FREIGHT[store] * some.size();
        return some;
    }

    /** A condition follows from another one if it holds for all numbers for which that holds, being of such kinds. */
    private static boolean given(List<Condition> ofEntry, List<Condition> ofSeat) {
        for (Condition wanted : ofEntry) {
            boolean is = false;
            for (Condition by : ofSeat) {
                if (by.column != wanted.column) {
                    continue;
                }
                int n = wanted.number;
                int m = by.number;
                switch ("SLMN?".charAt(wanted.kind) + "" + "SLMN?".charAt(by.kind)) {
                    case "SS":
                        is |= n == m;
                        break;
                    case "LL":
                        is |= m <= n;
                        break;
                    case "LS":
                        is |= m < n;
                        break;
                    case "MM":
                        is |= m >= n;
                        break;
                    case "MS":
                        is |= m > n;
                        break;
                    case "NN":
                    case "??":
                        is = true;
                        break;
                    default:
                        break;
                }
            }
            if (!is) {
                return false;
            }
        }
        return true;
    }

    private int claimOf(TreeMap<Integer, Held> held) {
        for (int moment = moment(); moment >= 0; moment--) {
            int m = moment;
            if (held.values().stream().allMatch(has -> isRight(has, m))) {
                return moment;
            }
        }
        return -1;
    }

    /** Whether no write of the source lies between the moment of the rows and the other one. */
    private boolean isRight(Held has, int moment) {
        int least = Math.min(moment, has.moment);
        int most = Math.max(moment, has.moment);
        for (int made = least + 1; made <= most; made++) {
            if (writes.get(made - 1) == has.source) {
                return false;
            }
        }
        return true;
    }

    private List<int[]> answerOf(List<TreeMap<Integer, int[]>> rows) {
        List<int[]> matches = new ArrayList<>();
        match(rows, new ArrayList<>(), matches);
        if (!groups) {
            return matches.subList(0, Math.min(limit, matches.size()));
        }
        TreeMap<Integer, int[]> byCell = new TreeMap<>();
        for (int[] match : matches) {
            int cell = match[0];
            int rank = cell == MISSING ? -5001 : cell == NULL ? -5000 : cell;
            int[] group = byCell.computeIfAbsent(rank, unused -> new int[] {cell, 0, 0});
            group[1]++;
            group[2] += number(match[match.length - 1]) ? match[match.length - 1] : 0;
        }
        List<int[]> all = new ArrayList<>(byCell.values());
        return all.subList(0, Math.min(limit, all.size()));
    }

    private void match(List<TreeMap<Integer, int[]>> rows, List<int[]> picked, List<int[]> matches) {
        if (picked.size() < rows.size()) {
            for (int[] row : rows.get(picked.size()).values()) {
                picked.add(row);
                match(rows, picked, matches);
                picked.remove(picked.size() - 1);
            }
            return;
        }
        for (Link link : links) {
            int cell = picked.get(link.seat)[link.column];
            if (!number(cell) || cell != picked.get(link.other)[link.otherColumn]) {
                return;
            }
        }
        for (Condition condition : conditions) {
            if (!holds(condition, picked.get(condition.seat))) {
                return;
            }
        }
        matches.add(outputs.stream().mapToInt(output -> picked.get(output.seat)[output.column]).toArray());
    }

    // ---- all data as they are

    public int answersAnew() {
        drafted();
        return answerAt(moment()).size();
    }

    public int answerAnew(int row, int column) {
        drafted();
        return cellOf(answerAt(moment()), row, column);
    }

    private List<int[]> answerAt(int moment) {
        List<TreeMap<Integer, int[]>> rows = new ArrayList<>();
        for (int source : seats) {
            rows.add(history.get(moment).get(source));
        }
        return answerOf(rows);
    }

    boolean isThere(int source, int mark) {
        return data.get(source).containsKey(mark);
    }

    int columnsOfAnswer() {
        return answer.isEmpty() ? 0 : answer.get(0).length;
    }

    /** Whether the latest answer, the draft being the same, is what it claims to be. */
    boolean claimIsTrue() {
        if (claims < 0) {
            return true;
        }
        List<int[]> then = answerAt(claims);
        return Arrays.deepEquals(then.toArray(), answer.toArray());
    }

    // ---- bundles

    public int step(int kind, int source, int a, int b, int c, int d) {
        source(source);
        range(kind, 0, 2);
        if ((kind > 0 && d != 0) || (kind == 2 && (b != 0 || c != 0))) {
            throw new IllegalArgumentException();
        }
        room(bundle, 4);
        bundle.add(new Step(kind, source, a, b, c, d));
        return bundle.size();
    }

    public int run() {
        if (bundle.isEmpty()) {
            throw new IllegalStateException();
        }
        List<Step> steps = new ArrayList<>(bundle);
        bundle.clear();
        List<Undo> undos = new ArrayList<>();
        for (int i = 0; i < steps.size(); i++) {
            if (!serve(steps.get(i), undos, i)) {
                Collections.reverse(undos);
                undos.forEach(Undo::back);
                return i;
            }
        }
        return -1;
    }

    private boolean serve(Step step, List<Undo> undos, int before) {
        int store = store(step.source);
        for (int i = 0; i < 3; i++) {
            boolean answered = attempt(store, now, -1);
            boolean done = undos.size() > before;
            if (!done && (answered || doesIt[store])) {
                Undo undo = tryOut(step);
                if (undo != null) {
                    undos.add(undo);
                    done = true;
                }
            }
            if (answered) {
                return done;
            }
        }
        return false;
    }

    /** Null if the step cannot be done. */
    private Undo tryOut(Step step) {
        int s = step.source;
        try {
            if (step.kind == 0) {
                int mark = add(s, step.a, step.b, step.c, step.d);
                return () -> remove(s, mark);
            }
            if (step.kind == 1) {
                int before = change(s, step.a, step.b, step.c);
                return () -> {
                    data.get(s).get(step.a)[step.b] = before;
                    written(s);
                };
            }
            int[] row = data.get(s).get(step.a);
            remove(s, step.a);
            return () -> {
                data.get(s).put(step.a, row);
                written(s);
            };
        } catch (IndexOutOfBoundsException | IllegalArgumentException | IllegalStateException e) {
            return null;
        }
    }
}
