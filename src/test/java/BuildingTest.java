/** Promises 1 to 8: a new object, and what builds and sets it. */
public final class BuildingTest {
    private static final Check check = new Check();

    public static void main(String[] args) {
        promise1NewObject();
        promise2AddServer();
        promise2AddServerRegisters();
        promise3AddDispatcher();
        promise4SetPolicy();
        promise4KeepsPointerListAndTable();
        promise5SetJoinMode();
        promise5ModesChooseTheList();
        promise6SetReportPeriod();
        promise7SetRandom();
        promise8SetUp();
        promise8Registers();
        refusalsChangeNothing();
        check.end();
    }

    private static void promise1NewObject() {
        IdleDispatcher x = new IdleDispatcher();
        check.due("new NONE", IdleDispatcher.NONE, -1);
        check.due("new now()", x.now(), 0);
        check.due("new submitted()", x.submitted(), 0);
        check.due("new finished()", x.finished(), 0);
        check.due("new missed()", x.missed(), 0);
        check.due("new meanWait()", x.meanWait(), 0.0);
        check.illegalArgument("new length(0)", () -> x.length(0));
        check.illegalArgument("new idleCount(0)", () -> x.idleCount(0));
        check.illegalState("new undo()", x::undo);
        check.due("new digest()", x.digest(), StateTest.hash(0, 1, 0, 8, 0, 0, 0, 0, 0, 0, 0));
    }

    private static void promise2AddServer() {
        IdleDispatcher x = new IdleDispatcher();
        for (int s = 0; s < 8; s++) {
            check.due("addServer()", x.addServer(), s);
            check.due("no dispatcher: registeredAt", x.registeredAt(s), -1);
            check.due("length of a new server", x.length(s), 0);
            check.due("work of a new server", x.work(s), 0);
        }
        check.illegalState("9th addServer()", x::addServer);
        check.illegalArgument("length(8)", () -> x.length(8));
        x.undo();
        check.due("addServer() after undo", x.addServer(), 7);
    }

    private static void promise2AddServerRegisters() {
        IdleDispatcher x = new IdleDispatcher();
        x.addServer();
        x.addDispatcher(3);
        x.addServer();
        check.due("registered before there was a dispatcher", x.registeredAt(0), -1);
        check.due("registered with the only dispatcher", x.registeredAt(1), 0);
        check.due("idle list", Start.idleList(x, 0), "1");
        check.due("entry of a new server", x.knownLength(0, 1), 0);
        x.setUp(0, true);
        check.due("up already: does not register", x.registeredAt(0), -1);
    }

    private static void promise3AddDispatcher() {
        IdleDispatcher x = new IdleDispatcher();
        check.illegalArgument("addDispatcher(-1)", () -> x.addDispatcher(-1));
        check.illegalArgument("addDispatcher(5)", () -> x.addDispatcher(5));
        for (int d = 0; d < 4; d++) {
            check.due("addDispatcher", x.addDispatcher(4 - d), d);
            check.due("previous policy", x.setPolicy(d, 0), 4 - d);
            check.due("idle list of a new one", x.idleCount(d), 0);
        }
        check.illegalState("5th addDispatcher(0)", () -> x.addDispatcher(0));
        check.illegalArgument("5th addDispatcher(5): the first listed", () -> x.addDispatcher(5));

        IdleDispatcher y = new IdleDispatcher();
        y.addDispatcher(1);
        y.addServer();
        y.submit(0, 20);
        y.tick(8);
        y.addDispatcher(4);
        check.due("table of the older one", y.knownLength(0, 0), 1);
        check.due("table of a new one", y.knownLength(1, 0), 0);
    }

    private static void promise4SetPolicy() {
        IdleDispatcher x = Start.with(1, 2, 3);
        check.due("setPolicy(0, 4)", x.setPolicy(0, 4), 2);
        check.due("setPolicy(0, 0)", x.setPolicy(0, 0), 4);
        check.due("setPolicy(1, 3)", x.setPolicy(1, 3), 3);
        check.illegalArgument("setPolicy(2, 0)", () -> x.setPolicy(2, 0));
        check.illegalArgument("setPolicy(-1, 0)", () -> x.setPolicy(-1, 0));
        check.illegalArgument("setPolicy(0, 5)", () -> x.setPolicy(0, 5));
        check.illegalArgument("setPolicy(0, -1)", () -> x.setPolicy(0, -1));
    }

    private static void promise4KeepsPointerListAndTable() {
        IdleDispatcher x = Start.with(4, 1);
        check.due("in turn", Start.taken(x, 0, 9, 2), "01");
        x.setPolicy(0, 3);
        check.due("the idle list stays", Start.idleList(x, 0), "23");
        check.due("from the idle list", x.submit(0, 9), 2);
        x.setPolicy(0, 4);
        check.due("the table knows nothing of other policies", Start.taken(x, 0, 9, 2), "01");
        x.setPolicy(0, 1);
        check.due("the pointer stays", x.submit(0, 9), 2);
        check.due("the table stays", x.knownLength(0, 1), 1);
        x.setPolicy(0, 4);
        check.due("the table goes on", Start.taken(x, 0, 9, 2), "23");
    }

    private static void promise5SetJoinMode() {
        IdleDispatcher x = new IdleDispatcher();
        check.due("setJoinMode(1)", x.setJoinMode(1), 0);
        check.due("setJoinMode(2)", x.setJoinMode(2), 1);
        check.due("setJoinMode(0)", x.setJoinMode(0), 2);
        check.illegalArgument("setJoinMode(-1)", () -> x.setJoinMode(-1));
        check.illegalArgument("setJoinMode(3)", () -> x.setJoinMode(3));
    }

    // With the state 1 the draws begin 16838, 5758, 10113, 17515, 31051, 5627, 23010, 7419,
    // modulo 3: 2, 1, 0, 1, 1, 2, 0, 0.
    private static void promise5ModesChooseTheList() {
        IdleDispatcher drawn = new IdleDispatcher();
        IdleDispatcher shorter = new IdleDispatcher();
        IdleDispatcher numbered = new IdleDispatcher();
        shorter.setJoinMode(1);
        numbered.setJoinMode(2);
        for (IdleDispatcher x : new IdleDispatcher[] {drawn, shorter, numbered}) {
            x.addDispatcher(0);
            x.addDispatcher(0);
            x.addDispatcher(0);
        }
        for (int s = 0; s < 4; s++) {
            drawn.addServer();
            shorter.addServer();
            numbered.addServer();
        }
        check.due("mode 0, list 0", Start.idleList(drawn, 0), "2");
        check.due("mode 0, list 1", Start.idleList(drawn, 1), "13");
        check.due("mode 0, list 2", Start.idleList(drawn, 2), "0");
        // The pairs are (2, 1): both empty; (0, 1): both empty; (1, 2): 1 is shorter; (0, 0).
        check.due("mode 1, list 0", Start.idleList(shorter, 0), "13");
        check.due("mode 1, list 1", Start.idleList(shorter, 1), "2");
        check.due("mode 1, list 2", Start.idleList(shorter, 2), "0");
        check.due("mode 2, list 0", Start.idleList(numbered, 0), "03");
        check.due("mode 2, list 1", Start.idleList(numbered, 1), "1");
        check.due("mode 2, list 2", Start.idleList(numbered, 2), "2");
    }

    private static void promise6SetReportPeriod() {
        IdleDispatcher x = Start.with(1, 0);
        check.due("setReportPeriod(1)", x.setReportPeriod(1), 8);
        check.due("setReportPeriod(100)", x.setReportPeriod(100), 1);
        check.due("setReportPeriod(3)", x.setReportPeriod(3), 100);
        check.illegalArgument("setReportPeriod(0)", () -> x.setReportPeriod(0));
        check.illegalArgument("setReportPeriod(101)", () -> x.setReportPeriod(101));
        check.illegalArgument("setReportPeriod(-3)", () -> x.setReportPeriod(-3));
        Start.submitTimes(x, 0, 20, 2);
        x.tick(2);
        check.due("before the report", x.knownLength(0, 0), 0);
        x.tick(1);
        check.due("after the report", x.knownLength(0, 0), 2);
        x.submit(0, 20);
        x.setReportPeriod(2);
        check.due("a new period is no report", x.knownLength(0, 0), 2);
        x.tick(1);
        check.due("tick 4 is divisible by 2", x.knownLength(0, 0), 3);
    }

    private static void promise7SetRandom() {
        IdleDispatcher x = Start.with(8, 0);
        // With the state 0 the draws begin 0, 21468, 9988, 22117: modulo 8 0, 4, 4, 5.
        check.due("setRandom(0)", x.setRandom(0), 1);
        check.due("draws from 0", Start.taken(x, 0, 1, 4), "0445");
        // With the state 999999: 26728, 12758, 16183, 2239: modulo 8 0, 6, 7, 7.
        check.due("setRandom(999999)", x.setRandom(999999), 1);
        check.due("draws from 999999", Start.taken(x, 0, 1, 4), "0677");
        check.illegalArgument("setRandom(-1)", () -> x.setRandom(-1));
        check.illegalArgument("setRandom(1000000)", () -> x.setRandom(1000000));
    }

    private static void promise8SetUp() {
        IdleDispatcher x = Start.with(2, 1);
        check.due("setUp(0, false)", x.setUp(0, false), true);
        check.due("setUp(0, false) again", x.setUp(0, false), false);
        check.due("gets no new jobs", Start.taken(x, 0, 3, 2), "11");
        check.due("setUp(1, false)", x.setUp(1, false), true);
        check.due("goes on serving", x.tick(3), 1);
        check.illegalState("no server is up", () -> x.submit(0, 1));
        check.due("setUp(0, true)", x.setUp(0, true), false);
        check.due("setUp(0, true) again", x.setUp(0, true), true);
        check.illegalArgument("setUp(2, true)", () -> x.setUp(2, true));
        check.illegalArgument("setUp(-1, false)", () -> x.setUp(-1, false));
    }

    private static void promise8Registers() {
        IdleDispatcher x = Start.with(3, 1);
        check.due("at first", Start.idleList(x, 0), "012");
        x.setUp(1, false);
        check.due("set down", Start.idleList(x, 0), "02");
        check.due("set down: registeredAt", x.registeredAt(1), -1);
        x.setUp(1, true);
        check.due("set up with length 0", Start.idleList(x, 0), "021");
        x.setUp(0, true);
        check.due("up already", Start.idleList(x, 0), "021");
        x.submit(0, 2);
        x.setUp(0, false);
        x.setUp(0, true);
        check.due("set up with length 1", Start.idleList(x, 0), "21");
        x.setUp(0, false);
        x.tick(2);
        check.due("finished while down", x.registeredAt(0), -1);
        x.setUp(0, true);
        check.due("set up when it has finished", Start.idleList(x, 0), "210");
    }

    private static void refusalsChangeNothing() {
        IdleDispatcher x = Start.with(8, 0, 1, 2, 3);
        Start.submitTimes(x, 3, 4, 3);
        long before = x.digest();
        check.illegalState("addServer()", x::addServer);
        check.illegalState("addDispatcher(0)", () -> x.addDispatcher(0));
        check.illegalArgument("addDispatcher(7)", () -> x.addDispatcher(7));
        check.illegalArgument("setPolicy(0, 9)", () -> x.setPolicy(0, 9));
        check.illegalArgument("setJoinMode(9)", () -> x.setJoinMode(9));
        check.illegalArgument("setReportPeriod(0)", () -> x.setReportPeriod(0));
        check.illegalArgument("setRandom(-9)", () -> x.setRandom(-9));
        check.illegalArgument("setUp(8, false)", () -> x.setUp(8, false));
        check.illegalArgument("submit(0, 0)", () -> x.submit(0, 0));
        check.illegalArgument("tick(501)", () -> x.tick(501));
        check.due("digest() after refusals", x.digest(), before);
    }
}
