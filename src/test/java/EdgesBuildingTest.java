/** Promises 1 to 8 at their edges: a test for each sentence of the document that names one. */
public final class EdgesBuildingTest {
    private static final int NONE = IdleDispatcher.NONE;
    private static final int[] WRONG_EVERYWHERE = {Integer.MIN_VALUE, -1, Integer.MAX_VALUE};

    private static final Check check = new Check();

    public static void main(String[] args) {
        Tests.runAll(EdgesBuildingTest.class, 1, 8, check);
    }

    // ---- 1: "Creates a simulator without servers and dispatchers, at tick 0."

    private static void promise1HasNoServers() {
        IdleDispatcher x = new IdleDispatcher();
        for (String name : new String[] {"length", "work", "registeredAt", "setUp"}) {
            check.illegalArgument(name + " of server 0", () -> Call.on(x, name, 0, 1));
        }
        x.addDispatcher(0);
        check.illegalArgument("knownLength(0, 0)", () -> x.knownLength(0, 0));
        check.illegalState("submit(0, 1)", () -> x.submit(0, 1));
    }

    private static void promise1HasNoDispatchers() {
        IdleDispatcher x = new IdleDispatcher();
        x.addServer();
        for (String name : new String[] {"setPolicy", "idleCount", "idleAt", "knownLength", "expectedLength"}) {
            check.illegalArgument(name + " of dispatcher 0", () -> Call.on(x, name, 0, 0));
        }
        check.illegalArgument("submit(0, 1)", () -> x.submit(0, 1));
    }

    // "Time is counted in ticks, from 0."
    private static void promise1IsAtTick0() {
        IdleDispatcher x = new IdleDispatcher();
        check.due("now()", x.now(), 0);
        x.setReportPeriod(1);
        x.addServer();
        x.addDispatcher(0);
        x.submit(0, 2);
        check.due("tick 0 makes no report", x.knownLength(0, 0), 0);
    }

    private static void promise1HasNoJobsAndNoSavedState() {
        IdleDispatcher x = new IdleDispatcher();
        check.due("submitted()", x.submitted(), 0);
        check.due("finished()", x.finished(), 0);
        check.due("missed()", x.missed(), 0);
        check.due("meanWait()", x.meanWait(), 0.0);
        check.outOfBounds("serverOf(0)", () -> x.serverOf(0));
        check.outOfBounds("waitOf(0)", () -> x.waitOf(0));
        check.illegalState("undo()", x::undo);
    }

    // "The join mode is initially 0."
    private static void promise1JoinModeIsInitially0() {
        check.due("setJoinMode(2)", new IdleDispatcher().setJoinMode(2), 0);
    }

    // "the report period (initially 8)"
    private static void promise1ReportPeriodIsInitially8() {
        check.due("setReportPeriod(1)", new IdleDispatcher().setReportPeriod(1), 8);
    }

    // "with a state x, initially 1"
    private static void promise1RandomStateIsInitially1() {
        check.due("draws since 1", Draws.made(Start.with(8, 0), 1, 0, 0, 1, 2, 3, 4, 5, 6, 7), 0);
    }

    private static void promise1ObjectsAreApart() {
        IdleDispatcher x = new IdleDispatcher();
        String before = Readings.of(x);
        IdleDispatcher y = Start.with(8, 0, 1, 2, 3);
        y.setRandom(5);
        y.submit(1, 3);
        y.tick(9);
        check.due("the other one", Readings.of(x), before);
        check.due("a third one", Readings.of(new IdleDispatcher()), before);
    }

    // ---- 2: addServer

    // "There are at most 8 servers, numbered from 0."
    private static void promise2EightServersNumberedFrom0() {
        IdleDispatcher x = new IdleDispatcher();
        for (int s = 0; s < 8; s++) {
            int next = s;
            check.illegalArgument("length(" + s + ") before", () -> x.length(next));
            check.due("addServer()", x.addServer(), s);
            check.due("length(" + s + ")", x.length(s), 0);
        }
    }

    private static void promise2NinthServerIsRefused() {
        IdleDispatcher x = Start.with(7, 0);
        check.due("8th addServer()", x.addServer(), 7);
        check.illegalState("9th addServer()", x::addServer);
        check.illegalState("9th addServer() again", x::addServer);
        check.due("length(7)", x.length(7), 0);
        check.illegalArgument("length(8)", () -> x.length(8));
        check.due("idle list", Start.idleList(x, 0), "01234567");
    }

    private static void promise2ServersThatAreDownCountToo() {
        IdleDispatcher x = Start.with(8, 0);
        for (int s = 0; s < 8; s++) {
            x.setUp(s, false);
        }
        check.illegalState("9th addServer()", x::addServer);
    }

    private static void promise2UndoneServersDoNotCount() {
        IdleDispatcher x = Start.with(8, 0);
        x.undo();
        check.due("8th addServer() once more", x.addServer(), 7);
        check.illegalState("9th addServer()", x::addServer);
    }

    // "A server is up (initially) or down."
    private static void promise2IsUp() {
        IdleDispatcher x = Start.with(1, 0);
        check.due("gets a job", x.submit(0, 1), 0);
        check.due("setUp(0, true)", x.setUp(0, true), true);
    }

    // "Adds a server, which is up and registers."
    private static void promise2RegistersAtTheEndOfTheList() {
        IdleDispatcher x = Start.with(2, 0);
        x.setUp(0, false);
        x.setUp(0, true);
        check.due("idle list before", Start.idleList(x, 0), "10");
        x.addServer();
        check.due("idle list", Start.idleList(x, 0), "102");
        check.due("registeredAt(2)", x.registeredAt(2), 0);
    }

    // "(if there are no dispatchers, it joins none)"
    private static void promise2WithoutDispatchersItJoinsNone() {
        for (int mode = 0; mode <= 2; mode++) {
            IdleDispatcher x = new IdleDispatcher();
            x.setJoinMode(mode);
            x.addServer();
            x.addServer();
            check.due("mode " + mode + " registeredAt(0)", x.registeredAt(0), NONE);
            check.due("mode " + mode + " registeredAt(1)", x.registeredAt(1), NONE);
            x.addDispatcher(0);
            check.due("mode " + mode + " draws", Draws.made(x, 1, 0, 0, 1), 0);
        }
    }

    // "If a server is idle but in no list .. it stays so until it registers again."
    private static void promise2InNoListItStaysSo() {
        IdleDispatcher x = new IdleDispatcher();
        x.addServer();
        x.addDispatcher(3);
        check.due("after addDispatcher", x.registeredAt(0), NONE);
        x.setUp(0, true);
        check.due("after setUp(0, true)", x.registeredAt(0), NONE);
        x.tick(500);
        check.due("after tick(500)", x.registeredAt(0), NONE);
        x.setJoinMode(2);
        check.due("after setJoinMode(2)", x.registeredAt(0), NONE);
        x.setPolicy(0, 1);
        check.due("after setPolicy(0, 1)", x.registeredAt(0), NONE);
        x.addServer();
        check.due("after addServer()", x.registeredAt(0), NONE);
        check.due("idle list", Start.idleList(x, 0), "1");
    }

    private static void promise2InNoListUntilItIsSetUpAgain() {
        IdleDispatcher x = new IdleDispatcher();
        x.addServer();
        x.addDispatcher(3);
        x.setUp(0, false);
        check.due("set down", x.registeredAt(0), NONE);
        x.setUp(0, true);
        check.due("set up", x.registeredAt(0), 0);
        check.due("idle list", Start.idleList(x, 0), "0");
    }

    private static void promise2InNoListUntilItsLastJobIsFinished() {
        IdleDispatcher x = new IdleDispatcher();
        x.addServer();
        x.addDispatcher(3);
        x.submit(0, 2);
        check.due("busy", x.registeredAt(0), NONE);
        x.tick(1);
        check.due("busy still", x.registeredAt(0), NONE);
        x.tick(1);
        check.due("finished", x.registeredAt(0), 0);
    }

    // "When a server or a dispatcher is added, its entries are 0."
    private static void promise2EntriesOfANewServerAre0() {
        IdleDispatcher x = Start.with(1, 4, 0);
        Start.submitTimes(x, 0, 20, 3);
        x.tick(8);
        check.due("knownLength(0, 0)", x.knownLength(0, 0), 3);
        x.addServer();
        check.due("knownLength(0, 1)", x.knownLength(0, 1), 0);
        check.due("knownLength(1, 1)", x.knownLength(1, 1), 0);
        check.due("knownLength(1, 0) stays", x.knownLength(1, 0), 3);
    }

    private static void promise2EntriesAre0WhenItIsAddedAgain() {
        IdleDispatcher x = Start.with(1, 0, 4);
        x.setUp(0, false);
        x.addServer();
        x.submit(0, 20);
        x.tick(8);
        check.due("knownLength(1, 1)", x.knownLength(1, 1), 1);
        for (int i = 0; i < 3; i++) {
            x.undo();
        }
        check.due("addServer() again", x.addServer(), 1);
        check.due("knownLength(1, 1) again", x.knownLength(1, 1), 0);
        check.due("length(1) again", x.length(1), 0);
    }

    // ---- 3: addDispatcher

    // "policy: 0 to 4"
    private static void promise3PoliciesFrom0To4() {
        for (int policy = 0; policy <= 4; policy++) {
            IdleDispatcher x = new IdleDispatcher();
            check.due("addDispatcher(" + policy + ")", x.addDispatcher(policy), 0);
            check.due("its policy", x.setPolicy(0, 0), policy);
        }
    }

    private static void promise3OtherPoliciesAreRefused() {
        IdleDispatcher x = new IdleDispatcher();
        check.illegalArgument("addDispatcher(5)", () -> x.addDispatcher(5));
        for (int wrong : WRONG_EVERYWHERE) {
            check.illegalArgument("addDispatcher(" + wrong + ")", () -> x.addDispatcher(wrong));
        }
        check.illegalArgument("idleCount(0)", () -> x.idleCount(0));
        check.due("addDispatcher(4)", x.addDispatcher(4), 0);
    }

    // "There are at most 4 dispatchers, numbered from 0"
    private static void promise3FourDispatchersNumberedFrom0() {
        IdleDispatcher x = new IdleDispatcher();
        for (int d = 0; d < 4; d++) {
            int next = d;
            check.illegalArgument("idleCount(" + d + ") before", () -> x.idleCount(next));
            check.due("addDispatcher(0)", x.addDispatcher(0), d);
            check.due("idleCount(" + d + ")", x.idleCount(d), 0);
        }
    }

    private static void promise3FifthDispatcherIsRefused() {
        IdleDispatcher x = Start.with(1, 0, 1, 2);
        check.due("4th addDispatcher(4)", x.addDispatcher(4), 3);
        check.illegalState("5th addDispatcher(0)", () -> x.addDispatcher(0));
        check.illegalState("5th addDispatcher(4)", () -> x.addDispatcher(4));
        check.illegalArgument("idleCount(4)", () -> x.idleCount(4));
        x.undo();
        check.due("undone: addDispatcher(3)", x.addDispatcher(3), 3);
    }

    // "If several exceptions apply, the one that is listed first is thrown."
    private static void promise3WrongPolicyComesBeforeTheFullHouse() {
        IdleDispatcher x = Start.with(0, 0, 0, 0, 0);
        check.illegalArgument("5th addDispatcher(-1)", () -> x.addDispatcher(-1));
        check.illegalArgument("5th addDispatcher(5)", () -> x.addDispatcher(5));
    }

    // "each dispatcher has a pointer to a server number, initially 0"
    private static void promise3PointerIsInitially0() {
        IdleDispatcher x = Start.with(3, 1);
        Start.submitTimes(x, 0, 5, 2);
        x.addDispatcher(1);
        check.due("the new one", x.submit(1, 5), 0);
        check.due("the old one", x.submit(0, 5), 2);
    }

    private static void promise3IdleListIsEmpty() {
        IdleDispatcher x = Start.with(3, 3);
        x.addDispatcher(3);
        check.due("idleCount(1)", x.idleCount(1), 0);
        check.due("the servers stay where they are", Start.idleList(x, 0), "012");
    }

    // "When a server or a dispatcher is added, its entries are 0."
    private static void promise3EntriesOfANewDispatcherAre0() {
        IdleDispatcher x = Start.with(2, 1);
        Start.submitTimes(x, 0, 20, 3);
        x.tick(8);
        x.addDispatcher(4);
        check.due("knownLength(0, 0)", x.knownLength(0, 0), 2);
        check.due("knownLength(1, 0)", x.knownLength(1, 0), 0);
        check.due("knownLength(1, 1)", x.knownLength(1, 1), 0);
        check.due("it takes the lowest number", x.submit(1, 20), 0);
    }

    private static void promise3MakesNoDraw() {
        for (int mode = 0; mode <= 2; mode++) {
            IdleDispatcher x = Start.with(2, 0);
            x.setJoinMode(mode);
            x.addDispatcher(0);
            x.addDispatcher(3);
            check.due("draws in mode " + mode, Draws.made(x, 1, 0, 0, 1), 0);
        }
    }

    // ---- 4: setPolicy

    private static void promise4PoliciesFrom0To4() {
        IdleDispatcher x = Start.with(0, 4);
        int before = 4;
        for (int policy = 0; policy <= 4; policy++) {
            check.due("setPolicy(0, " + policy + ")", x.setPolicy(0, policy), before);
            before = policy;
        }
        check.due("setPolicy(0, 4) again", x.setPolicy(0, 4), 4);
    }

    private static void promise4OtherPoliciesAreRefused() {
        IdleDispatcher x = Start.with(0, 2);
        check.illegalArgument("setPolicy(0, 5)", () -> x.setPolicy(0, 5));
        for (int wrong : WRONG_EVERYWHERE) {
            check.illegalArgument("setPolicy(0, " + wrong + ")", () -> x.setPolicy(0, wrong));
        }
        check.due("the policy stays", x.setPolicy(0, 1), 2);
    }

    private static void promise4OtherDispatchersAreRefused() {
        IdleDispatcher x = new IdleDispatcher();
        for (int count = 0; count <= 4; count++) {
            int next = count;
            check.illegalArgument("setPolicy(" + count + ", 0)", () -> x.setPolicy(next, 0));
            if (count < 4) {
                x.addDispatcher(3);
                check.due("setPolicy(" + count + ", 0) then", x.setPolicy(count, 0), 3);
            }
        }
        for (int wrong : WRONG_EVERYWHERE) {
            check.illegalArgument("setPolicy(" + wrong + ", 0)", () -> x.setPolicy(wrong, 0));
        }
        check.illegalArgument("setPolicy(4, 5)", () -> x.setPolicy(4, 5));
    }

    private static void promise4OfOneDispatcherOnly() {
        IdleDispatcher x = Start.with(0, 0, 1, 2, 3);
        x.setPolicy(1, 4);
        check.due("policy of 0", x.setPolicy(0, 0), 0);
        check.due("policy of 1", x.setPolicy(1, 0), 4);
        check.due("policy of 2", x.setPolicy(2, 0), 2);
        check.due("policy of 3", x.setPolicy(3, 0), 3);
    }

    // "Its pointer, its idle list and its table stay."
    private static void promise4PointerStays() {
        for (int policy = 0; policy <= 4; policy++) {
            IdleDispatcher x = Start.with(4, 1);
            Start.submitTimes(x, 0, 9, 2);
            x.setPolicy(0, policy);
            x.setPolicy(0, 1);
            check.due("by way of policy " + policy, x.submit(0, 9), 2);
        }
    }

    private static void promise4PointerIsNotMovedByOtherPolicies() {
        for (int policy : new int[] {0, 2, 3, 4}) {
            IdleDispatcher x = Start.with(4, 1);
            Start.submitTimes(x, 0, 9, 2);
            x.setPolicy(0, policy);
            Start.submitTimes(x, 0, 9, 3);
            x.setPolicy(0, 1);
            check.due("by way of policy " + policy, x.submit(0, 9), 2);
        }
    }

    private static void promise4IdleListStays() {
        for (int policy = 0; policy <= 4; policy++) {
            IdleDispatcher x = Start.with(3, 3);
            x.setUp(0, false);
            x.setUp(0, true);
            x.setPolicy(0, policy);
            check.due("with policy " + policy, Start.idleList(x, 0), "120");
        }
    }

    private static void promise4TableStays() {
        for (int policy = 0; policy <= 4; policy++) {
            IdleDispatcher x = Start.with(3, 4);
            Start.submitTimes(x, 0, 9, 4);
            x.setPolicy(0, policy);
            check.due("knownLength(0, 0) with policy " + policy, x.knownLength(0, 0), 2);
            check.due("knownLength(0, 2) with policy " + policy, x.knownLength(0, 2), 1);
            x.setPolicy(0, 4);
            check.due("the table goes on", x.submit(0, 9), 1);
        }
    }

    private static void promise4TableIsNotIncreasedByOtherPolicies() {
        for (int policy = 0; policy <= 3; policy++) {
            IdleDispatcher x = Start.with(2, policy);
            Start.submitTimes(x, 0, 9, 5);
            check.due("knownLength(0, 0) with policy " + policy, x.knownLength(0, 0), 0);
            check.due("knownLength(0, 1) with policy " + policy, x.knownLength(0, 1), 0);
        }
    }

    // ---- 5: setJoinMode

    private static void promise5ModesFrom0To2() {
        IdleDispatcher x = new IdleDispatcher();
        check.due("setJoinMode(0)", x.setJoinMode(0), 0);
        check.due("setJoinMode(2)", x.setJoinMode(2), 0);
        check.due("setJoinMode(1)", x.setJoinMode(1), 2);
        check.due("setJoinMode(1) again", x.setJoinMode(1), 1);
    }

    private static void promise5OtherModesAreRefused() {
        IdleDispatcher x = new IdleDispatcher();
        x.setJoinMode(2);
        check.illegalArgument("setJoinMode(3)", () -> x.setJoinMode(3));
        for (int wrong : WRONG_EVERYWHERE) {
            check.illegalArgument("setJoinMode(" + wrong + ")", () -> x.setJoinMode(wrong));
        }
        check.due("the mode stays", x.setJoinMode(0), 2);
    }

    // "Mode 0: the dispatcher draw(d)."
    private static void promise5Mode0DrawsOneDispatcher() {
        for (int wanted = 0; wanted < 4; wanted++) {
            int from = Draws.stateBefore(4, wanted, 3 - wanted);
            IdleDispatcher x = Start.with(7, 0, 0, 0, 0);
            x.setJoinMode(0);
            x.setRandom(from);
            x.addServer();
            check.due("registeredAt(7)", x.registeredAt(7), wanted);
            check.due("draws", Draws.made(x, from, 0, 0, 1, 2, 3, 4, 5, 6, 7), 1);
        }
    }

    private static void promise5Mode0DrawsForASingleDispatcherToo() {
        IdleDispatcher x = Start.with(1, 0);
        x.setJoinMode(0);
        x.addServer();
        check.due("registeredAt(1)", x.registeredAt(1), 0);
        check.due("draws", Draws.made(x, 1, 0, 0, 1), 1);
    }

    // "the one with the shorter idle list is chosen, the first one if they are equal"
    private static void promise5Mode1EqualListsTheFirstDrawn() {
        IdleDispatcher x = Start.with(4, 0, 0, 0, 0);
        x.setJoinMode(1);
        x.setRandom(Draws.stateBefore(4, 3, 1));
        x.addServer();
        check.due("3 and 1, one server each", x.registeredAt(4), 3);
        x.setRandom(Draws.stateBefore(4, 0, 2));
        x.addServer();
        check.due("0 and 2, one server each", x.registeredAt(5), 0);
    }

    private static void promise5Mode1EmptyListsAreEqualToo() {
        IdleDispatcher x = Start.with(0, 0, 0, 0, 0);
        x.setJoinMode(1);
        x.setRandom(Draws.stateBefore(4, 2, 1));
        x.addServer();
        check.due("2 and 1, both empty", x.registeredAt(0), 2);
    }

    private static void promise5Mode1TheSecondIsShorter() {
        IdleDispatcher x = Start.with(1, 0, 0, 0, 0);
        x.setJoinMode(1);
        x.setRandom(Draws.stateBefore(4, 0, 3));
        x.addServer();
        check.due("0 with one server and 3 with none", x.registeredAt(1), 3);
    }

    private static void promise5Mode1TheSecondIsLonger() {
        IdleDispatcher x = Start.with(1, 0, 0, 0, 0);
        x.setJoinMode(1);
        x.setRandom(Draws.stateBefore(4, 3, 0));
        x.addServer();
        check.due("3 with none and 0 with one server", x.registeredAt(1), 3);
    }

    private static void promise5Mode1TheSameTwice() {
        IdleDispatcher x = Start.with(3, 0, 0, 0, 0);
        x.setJoinMode(1);
        x.setRandom(Draws.stateBefore(4, 2, 2));
        x.addServer();
        check.due("2 and 2", x.registeredAt(3), 2);
        check.due("idle list", Start.idleList(x, 2), "23");
    }

    private static void promise5Mode1AlwaysDrawsTwice() {
        for (int dispatchers = 1; dispatchers <= 4; dispatchers++) {
            IdleDispatcher x = Start.with(1, new int[dispatchers]);
            x.setJoinMode(1);
            x.addServer();
            check.due("draws with " + dispatchers, Draws.made(x, 1, 0, 0, 1), 2);
        }
    }

    // "Mode 2: the dispatcher with the number (server number modulo d)."
    private static void promise5Mode2WrapsAround() {
        String[] lists = {"01234567", "0246 1357", "036 147 25", "04 15 26 37"};
        for (int dispatchers = 1; dispatchers <= 4; dispatchers++) {
            IdleDispatcher x = Start.with(8, new int[dispatchers]);
            StringBuilder found = new StringBuilder();
            for (int d = 0; d < dispatchers; d++) {
                found.append(d == 0 ? "" : " ").append(Start.idleList(x, d));
            }
            check.due(dispatchers + " dispatchers", found.toString(), lists[dispatchers - 1]);
        }
    }

    private static void promise5Mode2DrawsNothing() {
        IdleDispatcher x = Start.with(3, 0, 0);
        x.setUp(1, false);
        x.setUp(1, true);
        x.submit(0, 1);
        x.tick(1);
        // The one draw is that of submit.
        check.due("draws", Draws.made(x, 1, 0, 0, 1, 2), 1);
    }

    // "Let d be the number of dispatchers", as it is when the server registers.
    private static void promise5CountsTheDispatchersOfTheMoment() {
        IdleDispatcher x = Start.with(4, 0);
        check.due("one dispatcher", Start.idleList(x, 0), "0123");
        x.addDispatcher(0);
        x.setUp(3, false);
        x.setUp(3, true);
        check.due("two dispatchers", x.registeredAt(3), 1);
        x.addDispatcher(0);
        x.setUp(3, false);
        x.setUp(3, true);
        check.due("three dispatchers", x.registeredAt(3), 0);
    }

    private static void promise5MovesNoServer() {
        IdleDispatcher x = Start.with(5, 0, 0);
        for (int mode = 0; mode <= 2; mode++) {
            x.setJoinMode(mode);
            check.due("list of 0 in mode " + mode, Start.idleList(x, 0), "024");
            check.due("list of 1 in mode " + mode, Start.idleList(x, 1), "13");
        }
        check.due("draws", Draws.made(x, 1, 0, 0, 1, 2, 3, 4), 0);
    }

    // ---- 6: setReportPeriod

    private static void promise6PeriodsFrom1To100() {
        IdleDispatcher x = new IdleDispatcher();
        check.due("setReportPeriod(1)", x.setReportPeriod(1), 8);
        check.due("setReportPeriod(100)", x.setReportPeriod(100), 1);
        check.due("setReportPeriod(100) again", x.setReportPeriod(100), 100);
    }

    private static void promise6OtherPeriodsAreRefused() {
        IdleDispatcher x = new IdleDispatcher();
        check.illegalArgument("setReportPeriod(0)", () -> x.setReportPeriod(0));
        check.illegalArgument("setReportPeriod(101)", () -> x.setReportPeriod(101));
        for (int wrong : WRONG_EVERYWHERE) {
            check.illegalArgument("setReportPeriod(" + wrong + ")", () -> x.setReportPeriod(wrong));
        }
        check.due("the period stays", x.setReportPeriod(1), 8);
    }

    // "At the end of each tick whose number is divisible by the report period"
    private static void promise6Period1ReportsEachTick() {
        IdleDispatcher x = Start.with(1, 0);
        x.setReportPeriod(1);
        Start.submitTimes(x, 0, 1, 3);
        for (int left = 2; left >= 0; left--) {
            x.tick(1);
            check.due("after a tick", x.knownLength(0, 0), left);
        }
    }

    private static void promise6Period100ReportsInTick100() {
        IdleDispatcher x = Start.with(1, 0);
        x.setReportPeriod(100);
        Start.submitTimes(x, 0, 20, 6);
        x.tick(99);
        check.due("tick 99", x.knownLength(0, 0), 0);
        x.tick(1);
        check.due("tick 100", x.knownLength(0, 0), 1);
        x.tick(99);
        check.due("tick 199", x.knownLength(0, 0), 1);
        x.tick(1);
        check.due("tick 200", x.knownLength(0, 0), 0);
    }

    // "The period can be changed at any time."
    private static void promise6ANewPeriodIsNoReport() {
        IdleDispatcher x = Start.with(1, 0);
        x.tick(6);
        x.submit(0, 20);
        x.setReportPeriod(3);
        check.due("tick 6 is over", x.knownLength(0, 0), 0);
        x.tick(0);
        check.due("tick(0) is no tick", x.knownLength(0, 0), 0);
        x.tick(2);
        check.due("tick 8", x.knownLength(0, 0), 0);
        x.tick(1);
        check.due("tick 9", x.knownLength(0, 0), 1);
    }

    private static void promise6CountsFromTick0NotFromTheChange() {
        IdleDispatcher x = Start.with(1, 0);
        x.tick(7);
        x.submit(0, 20);
        x.setReportPeriod(5);
        x.tick(2);
        check.due("tick 9", x.knownLength(0, 0), 0);
        x.tick(1);
        check.due("tick 10", x.knownLength(0, 0), 1);
    }

    private static void promise6TablesStayUntilTheNextReport() {
        IdleDispatcher x = Start.with(1, 4);
        x.submit(0, 20);
        x.tick(8);
        x.setReportPeriod(100);
        x.tick(90);
        check.due("tick 98, the job is long finished", x.knownLength(0, 0), 1);
        x.setReportPeriod(99);
        x.tick(1);
        check.due("tick 99", x.knownLength(0, 0), 0);
    }

    // ---- 7: setRandom

    private static void promise7StatesFrom0To999999() {
        for (int from : new int[] {0, 1, 999998, 999999}) {
            IdleDispatcher x = Start.with(8, 0);
            check.due("setRandom(" + from + ")", x.setRandom(from), 1);
            check.due("draws since " + from, Draws.made(x, from, 0, 0, 1, 2, 3, 4, 5, 6, 7), 0);
        }
    }

    private static void promise7OtherStatesAreRefused() {
        IdleDispatcher x = Start.with(8, 0);
        x.setRandom(999999);
        check.illegalArgument("setRandom(1000000)", () -> x.setRandom(1000000));
        for (int wrong : WRONG_EVERYWHERE) {
            check.illegalArgument("setRandom(" + wrong + ")", () -> x.setRandom(wrong));
        }
        check.due("the state stays", Draws.made(x, 999999, 0, 0, 1, 2, 3, 4, 5, 6, 7), 0);
    }

    // "A draw first sets x to (x * 1103515245 + 12345) modulo 2147483648"
    private static void promise7TheStateIsTakenModulo2147483648() {
        IdleDispatcher x = new IdleDispatcher();
        x.addDispatcher(0);
        x.addServer();
        Draws d = new Draws(1);
        d.next(1);
        check.due("no wrap-around yet: the state", d.state(), 1103527590L);
        check.due("digest()", x.digest(), oneServerOneDispatcher(1103527590L, 2));
        x.setUp(0, false);
        x.setUp(0, true);
        // 1103527590 * 1103515245 + 12345 = 1217759518843121895, modulo 2147483648: 377401575.
        check.due("the first wrap-around: digest()", x.digest(), oneServerOneDispatcher(377401575L, 3));
    }

    private static long oneServerOneDispatcher(long state, int saved) {
        return StateTest.hash(0, state, 0, 8, 1, 1, 0, 0, 0, 1, 0, 0, 1, 0, 0, 0, 0, 0, 0, saved);
    }

    private static void promise7ManyDrawsWrapAroundAsTheDocumentSays() {
        for (int from : new int[] {0, 999999}) {
            IdleDispatcher x = Start.with(7, 0);
            x.setRandom(from);
            Draws d = new Draws(from);
            for (int i = 0; i < 200; i++) {
                check.due("draw " + i + " since " + from, x.submit(0, 1), d.next(7));
            }
        }
    }

    // "draw(n) is then (x / 65536, rounded down) modulo n"
    private static void promise7EachDrawIsTakenModuloTheNumberOfCandidates() {
        for (int n = 1; n <= 8; n++) {
            IdleDispatcher x = Start.with(n, 0);
            Draws d = new Draws(1);
            for (int i = 0; i < 30; i++) {
                check.due("draw " + i + " of " + n, x.submit(0, 1), d.next(n));
            }
        }
    }

    // ---- 8: setUp

    private static void promise8NumbersOfServers() {
        IdleDispatcher x = new IdleDispatcher();
        for (int count = 0; count <= 8; count++) {
            int next = count;
            check.illegalArgument("setUp(" + count + ", true)", () -> x.setUp(next, true));
            check.illegalArgument("setUp(" + count + ", false)", () -> x.setUp(next, false));
            if (count < 8) {
                x.addServer();
                check.due("setUp(" + count + ", false) then", x.setUp(count, false), true);
            }
        }
        for (int wrong : WRONG_EVERYWHERE) {
            check.illegalArgument("setUp(" + wrong + ", true)", () -> x.setUp(wrong, true));
        }
    }

    private static void promise8TellsWhetherItWasUpBefore() {
        IdleDispatcher x = Start.with(1, 0);
        check.due("up to up", x.setUp(0, true), true);
        check.due("up to down", x.setUp(0, false), true);
        check.due("down to down", x.setUp(0, false), false);
        check.due("down to up", x.setUp(0, true), false);
        check.due("up to up again", x.setUp(0, true), true);
    }

    private static void promise8OfOneServerOnly() {
        IdleDispatcher x = Start.with(3, 0);
        x.setUp(1, false);
        check.due("server 0", x.setUp(0, true), true);
        check.due("server 2", x.setUp(2, true), true);
        check.due("server 1", x.setUp(1, true), false);
    }

    // "A server that is up already and set up does not register again."
    private static void promise8UpAlreadyKeepsItsPlaceInTheList() {
        IdleDispatcher x = Start.with(3, 0);
        for (int s = 0; s < 3; s++) {
            x.setUp(s, true);
            check.due("idle list after setUp(" + s + ", true)", Start.idleList(x, 0), "012");
        }
    }

    private static void promise8UpAlreadyDrawsNothing() {
        for (int mode = 0; mode <= 1; mode++) {
            IdleDispatcher x = Start.with(2, 0, 0);
            x.setJoinMode(mode);
            x.setUp(0, true);
            x.setUp(1, true);
            check.due("draws in mode " + mode, Draws.made(x, 1, 0, 0, 1), 0);
        }
    }

    private static void promise8UpAlreadyStaysInItsListInAnotherMode() {
        IdleDispatcher x = Start.with(1, 0);
        x.addDispatcher(0);
        x.addServer();
        check.due("registeredAt(1)", x.registeredAt(1), 1);
        x.addDispatcher(0);
        x.addDispatcher(0);
        x.setJoinMode(1);
        x.setUp(1, true);
        check.due("registeredAt(1) still", x.registeredAt(1), 1);
    }

    private static void promise8UpAlreadyAndInNoListStaysInNone() {
        IdleDispatcher x = new IdleDispatcher();
        x.addServer();
        x.addDispatcher(0);
        x.setUp(0, true);
        check.due("registeredAt(0)", x.registeredAt(0), NONE);
        check.due("idleCount(0)", x.idleCount(0), 0);
    }

    // "A server registers when it becomes idle: .. or when it is set up with length 0."
    private static void promise8SetUpWithLength0Registers() {
        IdleDispatcher x = Start.with(3, 0);
        x.setUp(0, false);
        x.setUp(0, true);
        check.due("at the end of the list", Start.idleList(x, 0), "120");
        check.due("registeredAt(0)", x.registeredAt(0), 0);
    }

    private static void promise8SetUpWithLength0Draws() {
        for (int mode = 0; mode <= 1; mode++) {
            IdleDispatcher x = Start.with(2, 0);
            x.setJoinMode(mode);
            x.setUp(1, false);
            x.setUp(1, true);
            check.due("draws in mode " + mode, Draws.made(x, 1, 0, 0, 1), mode + 1);
        }
    }

    private static void promise8SetUpWithLength1DoesNotRegister() {
        IdleDispatcher x = Start.with(2, 1);
        x.setJoinMode(0);
        x.submit(0, 3);
        x.setUp(0, false);
        x.setUp(0, true);
        check.due("registeredAt(0)", x.registeredAt(0), NONE);
        check.due("idle list", Start.idleList(x, 0), "1");
        check.due("draws", Draws.made(x, 1, 0, 0, 1), 0);
    }

    private static void promise8SetUpWithoutDispatchersJoinsNone() {
        for (int mode = 0; mode <= 2; mode++) {
            IdleDispatcher x = new IdleDispatcher();
            x.setJoinMode(mode);
            x.addServer();
            x.addServer();
            x.setUp(0, false);
            x.setUp(0, true);
            check.due("registeredAt(0) in mode " + mode, x.registeredAt(0), NONE);
            x.addDispatcher(0);
            check.due("draws in mode " + mode, Draws.made(x, 1, 0, 0, 1), 0);
        }
    }

    // "A server leaves its idle list when it .. is set down."
    private static void promise8SetDownLeavesTheList() {
        String[] left = {"1234567", "0234567", "0134567", "0124567", "0123567", "0123467", "0123457", "0123456"};
        for (int s = 0; s < 8; s++) {
            IdleDispatcher x = Start.with(8, 3);
            x.setUp(s, false);
            check.due("idle list without " + s, Start.idleList(x, 0), left[s]);
            check.due("registeredAt(" + s + ")", x.registeredAt(s), NONE);
        }
    }

    private static void promise8SetDownLeavesAListOfOne() {
        IdleDispatcher x = Start.with(2, 3, 3);
        x.setUp(1, false);
        check.due("idleCount(1)", x.idleCount(1), 0);
        check.due("idleCount(0)", x.idleCount(0), 1);
        x.setUp(1, false);
        check.due("down already: idleCount(0)", x.idleCount(0), 1);
    }

    // "A server that is down gets no new jobs, but goes on serving its queue."
    private static void promise8DownGetsNoNewJobs() {
        for (int policy = 0; policy <= 4; policy++) {
            for (int down = 0; down < 3; down++) {
                IdleDispatcher x = Start.with(3, policy);
                x.setUp(down, false);
                Start.submitTimes(x, 0, 2, 12);
                check.due("policy " + policy + ", length(" + down + ")", x.length(down), 0);
            }
        }
    }

    private static void promise8DownGoesOnServing() {
        IdleDispatcher x = Start.with(1, 0);
        Start.submitTimes(x, 0, 2, 2);
        x.setUp(0, false);
        check.due("tick(1)", x.tick(1), 0);
        check.due("work(0)", x.work(0), 3);
        check.due("tick(1)", x.tick(1), 1);
        check.due("the next one begins", x.waitOf(1), 2);
        check.due("tick(2)", x.tick(2), 1);
        check.due("length(0)", x.length(0), 0);
    }

    // "when its last job is finished while it is up"
    private static void promise8FinishedWhileDownDoesNotRegister() {
        IdleDispatcher x = Start.with(2, 1);
        x.setJoinMode(0);
        x.submit(0, 1);
        x.setUp(0, false);
        x.tick(3);
        check.due("registeredAt(0)", x.registeredAt(0), NONE);
        x.setJoinMode(2);
        x.setUp(0, true);
        check.due("set up then: registeredAt(0)", x.registeredAt(0), 0);
        check.due("draws", Draws.made(x, 1, 0, 0, 1), 0);
    }

    private static void promise8SetUpBeforeTheLastJobIsFinishedRegistersThen() {
        IdleDispatcher x = Start.with(2, 1);
        x.submit(0, 2);
        x.setUp(0, false);
        x.tick(1);
        x.setUp(0, true);
        check.due("still busy", Start.idleList(x, 0), "1");
        x.tick(1);
        check.due("finished", Start.idleList(x, 0), "10");
    }
}
