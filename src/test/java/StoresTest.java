/** Promises 9 to 15: the calls of the stores and the time. */
public final class StoresTest {
    public static void main(String[] args) {
        promise9SetPace();
        promise9Lag();
        promise10Quota();
        promise10Cap();
        promise11SetLease();
        promise12Fail();
        promise13Forbid();
        promise13ForbidsBinds();
        promise14Pass();
        promise15Now();
        Checks.end("StoresTest");
    }

    private static QueryHarbor withTable(int rows) {
        QueryHarbor x = new QueryHarbor();
        for (int i = 0; i < rows; i++) {
            x.add(0, i, i, i, i);
        }
        x.seat(0);
        x.out(0, 0);
        return x;
    }

    private static void promise9SetPace() {
        QueryHarbor x = withTable(1);
        Checks.due("delay before", 1, x.setPace(0, 30, 60));
        Checks.due("delay before", 30, x.setPace(0, 0, 0));
        Checks.due("delay before", 0, x.setPace(0, 7, 0));
        Checks.place("no store", () -> x.setPace(3, 31, 61));
        Checks.place("no store", () -> x.setPace(-1, 0, 0));
        Checks.argument("delay above", () -> x.setPace(0, 31, 0));
        Checks.argument("delay below", () -> x.setPace(0, -1, 0));
        Checks.argument("lag above", () -> x.setPace(0, 0, 61));
        Checks.argument("lag below", () -> x.setPace(0, 0, -1));
        x.ask(0, 200);
        Checks.due("the delay holds", 7, x.now());
        Checks.due("other stores have their own", 1, x.setPace(1, 1, 0));
    }

    private static void promise9Lag() {
        QueryHarbor x = withTable(1);
        x.setPace(0, 1, 5);
        x.ask(0, 200);
        x.change(0, 0, 0, 9);
        x.setPace(0, 1, 60);
        Checks.due("on the way", 1, x.entries());
        x.pass(4);
        Checks.due("still on the way", 1, x.entries());
        x.pass(1);
        Checks.due("came as it was sent", 0, x.entries());
        x.ask(0, 200);
        x.change(0, 0, 0, 8);
        x.setPace(0, 1, 0);
        Checks.due("still as it was sent", 1, x.entries());
        x.change(0, 0, 0, 7);
        Checks.due("one without a lag overtakes", 0, x.entries());
    }

    private static void promise10Quota() {
        QueryHarbor x = withTable(1);
        Checks.due("quota before", 20, x.setBounds(0, 2, 12));
        Checks.due("quota before", 2, x.setBounds(0, 2, 12));
        Checks.place("no store", () -> x.setBounds(3, 0, 13));
        Checks.place("no store", () -> x.setBounds(-1, 1, 1));
        Checks.argument("quota below", () -> x.setBounds(0, 0, 12));
        Checks.argument("quota above", () -> x.setBounds(0, 21, 12));
        Checks.argument("cap below", () -> x.setBounds(0, 1, -1));
        Checks.argument("cap above", () -> x.setBounds(0, 1, 13));
        x.ask(0, 200);
        x.pass(1);
        x.ask(0, 200);
        x.pass(1);
        Checks.due("two attempts in the window", 4, x.now());
        x.ask(0, 200);
        Checks.due("the third one has waited", 11, x.now());
        Checks.due("waiting is no attempt", 1, x.attempts());
        x.pass(8);
        x.ask(0, 200);
        Checks.due("the window of an attempt is that of its beginning", 20, x.now());
        x.setBounds(0, 1, 12);
        x.pass(1);
        x.ask(0, 200);
        x.pass(1);
        x.ask(0, 200);
        Checks.due("the quota that is less holds at once", 31, x.now());
    }

    private static void promise10Cap() {
        QueryHarbor x = withTable(3);
        x.setBounds(0, 20, 3);
        Checks.due("as many as the cap", 3, x.ask(0, 200));
        Checks.due("not cut", 0, x.missing());
        x.pass(1);
        x.setBounds(0, 20, 2);
        Checks.due("one more than the cap", 2, x.ask(0, 200));
        Checks.due("cut", 1, x.missing());
        Checks.due("the first rows come", 1, x.answer(1, 0));
        Checks.due("what is cut is not shipped", 2, x.shipped());
        Checks.due("nor paid", 7, x.cost());
        x.setBounds(0, 20, 0);
        Checks.due("none", 0, x.ask(0, 200));
        Checks.due("cut", 1, x.missing());
        x.where(0, 0, QueryHarbor.MORE, 5);
        Checks.due("none asked for", 0, x.ask(0, 200));
        Checks.due("not cut", 0, x.missing());
        Checks.due("other stores have their own", 20, x.setBounds(1, 20, 12));
    }

    private static void promise11SetLease() {
        QueryHarbor x = withTable(1);
        x.ask(0, 200);
        x.pass(59);
        Checks.due("lease before", 60, x.setLease(0, 60));
        Checks.due("59 ticks old", 1, x.entries());
        x.pass(1);
        Checks.due("60 ticks old", 1, x.entries());
        x.pass(1);
        Checks.due("61 ticks old", 0, x.entries());
        x.setLease(0, 200);
        Checks.due("dropped for ever", 0, x.entries());
        x.ask(0, 200);
        x.pass(100);
        x.pass(50);
        Checks.due("150 ticks old", 1, x.entries());
        x.setLease(1, 0);
        Checks.due("the lease of another store", 1, x.entries());
        Checks.due("lease before", 200, x.setLease(0, 150));
        Checks.due("as old as the lease", 1, x.entries());
        Checks.due("lease before", 150, x.setLease(0, 149));
        Checks.due("older than the lease", 0, x.entries());
        Checks.place("no store", () -> x.setLease(3, 201));
        Checks.place("no store", () -> x.setLease(-1, 0));
        Checks.argument("lease above", () -> x.setLease(0, 201));
        Checks.argument("lease below", () -> x.setLease(0, -1));
        Checks.due("lease before", 149, x.setLease(0, 0));
        x.ask(0, 200);
        Checks.due("a lease of 0 keeps for the tick", 1, x.entries());
        x.pass(1);
        Checks.due("and no longer", 0, x.entries());
    }

    private static void promise12Fail() {
        QueryHarbor x = withTable(1);
        Checks.due("failing before", 0, x.fail(0, 20, false));
        Checks.due("it is set, not added", 20, x.fail(0, 5, true));
        Checks.place("no store", () -> x.fail(3, 21, true));
        Checks.place("no store", () -> x.fail(-1, 0, true));
        Checks.argument("above", () -> x.fail(0, 21, true));
        Checks.argument("below", () -> x.fail(0, -1, true));
        Checks.due("three attempts fail", 0, x.ask(0, 200));
        Checks.due("open", 1, x.missing());
        Checks.due("attempts", 3, x.attempts());
        Checks.due("fees of what fails", 15, x.cost());
        Checks.due("what fails takes its time", 3, x.now());
        Checks.due("two are left", 1, x.ask(0, 200));
        Checks.due("attempts", 3, x.attempts());
        Checks.due("cost", 16, x.cost());
        Checks.due("whole", 0, x.missing());
        Checks.due("none is left", 0, x.fail(0, 3, false));
        Checks.due("other stores do not fail", 0, x.fail(1, 0, false));
        Checks.due("failing before", 3, x.fail(0, 0, false));
    }

    private static void promise13Forbid() {
        QueryHarbor x = new QueryHarbor();
        Checks.due("was", false, x.forbid(0, 2, true));
        Checks.due("was", true, x.forbid(0, 2, true));
        Checks.due("was", true, x.forbid(0, 2, false));
        Checks.due("was", false, x.forbid(0, 2, true));
        Checks.due("of another source", false, x.forbid(1, 2, true));
        Checks.due("to another store", false, x.forbid(0, 1, true));
        Checks.due("the last one", false, x.forbid(5, 2, true));
        Checks.place("no source", () -> x.forbid(6, 0, true) ? 1 : 0);
        Checks.place("no source", () -> x.forbid(-1, 0, true) ? 1 : 0);
        Checks.place("no store", () -> x.forbid(0, 3, true) ? 1 : 0);
        Checks.place("no store", () -> x.forbid(0, -1, true) ? 1 : 0);
    }

    private static void promise13ForbidsBinds() {
        QueryHarbor x = withTable(2);
        x.add(4, 1, 1, 1, 1);
        x.seat(4);
        x.link(0, 0, 1, 0);
        x.forbid(4, 2, true);
        x.forbid(4, 0, true);
        x.forbid(0, 0, true);
        x.forbid(0, 1, true);
        x.ask(0, 200);
        Checks.due("others are forbidden", 11, x.taken(1));
        x.pass(1);
        x.forbid(0, 2, true);
        x.ask(0, 200);
        Checks.due("these are forbidden", 13, x.taken(1));
        x.pass(1);
        x.forbid(0, 2, false);
        x.ask(0, 200);
        Checks.due("the scan told the size 1, so this one is first", 13, x.taken(0));
        Checks.due("what the source 4 has may be sent to ROWS no more", 3, x.taken(1));
        QueryHarbor y = withTable(2);
        y.seat(0);
        y.link(0, 0, 1, 0);
        y.ask(0, 200);
        Checks.due("the same source twice", 10, y.taken(1));
        y.clear();
        y.pass(1);
        y.seat(0);
        y.seat(0);
        y.link(0, 0, 1, 0);
        y.out(0, 0);
        y.where(0, 0, QueryHarbor.SAME, 1);
        y.forbid(0, 0, true);
        y.ask(0, 200);
        Checks.due("its own store may be forbidden, too", 13, y.taken(1));
    }

    private static void promise14Pass() {
        QueryHarbor x = withTable(1);
        Checks.due("pass", 1, x.pass(1));
        Checks.due("pass", 101, x.pass(100));
        Checks.argument("none", () -> x.pass(0));
        Checks.argument("back", () -> x.pass(-1));
        Checks.argument("above", () -> x.pass(101));
        Checks.due("the tick", 101, x.now());
    }

    private static void promise15Now() {
        QueryHarbor x = withTable(1);
        Checks.due("now", 0, x.now());
        x.ask(0, 0);
        Checks.due("an attempt takes the delay", 1, x.now());
        x.ask(0, 0);
        Checks.due("the cache takes none", 1, x.now());
        x.add(0, 1, 1, 1, 1);
        x.answersAnew();
        Checks.due("what is done here takes none", 1, x.now());
        x.step(QueryHarbor.ADD, 0, 1, 1, 1, 1);
        x.step(QueryHarbor.ADD, 0, 1, 1, 1, 1);
        x.run();
        Checks.due("steps take the delay", 3, x.now());
    }
}
