/** Promises 9 and 10: submit by each policy, and tick. */
public final class RunningTest {
    private static final Check check = new Check();

    public static void main(String[] args) {
        promise9Refusals();
        promise9AtMost200Jobs();
        promise9Random();
        promise9InTurn();
        promise9InTurnPointerBehindTheLast();
        promise9TwoChoices();
        promise9IdleQueue();
        promise9LeavesTheListOfAnyDispatcher();
        promise9StaleReports();
        promise9AllServersAndDispatchers();
        promise10Refusals();
        promise10Finishes();
        promise10RegistersInOrder();
        promise10Reports();
        check.end();
    }

    private static void promise9Refusals() {
        IdleDispatcher x = Start.with(0, 0);
        check.illegalState("no server", () -> x.submit(0, 1));
        check.illegalArgument("no server, but a wrong size first", () -> x.submit(0, 0));
        check.illegalArgument("no server, but a wrong dispatcher first", () -> x.submit(1, 1));
        x.addServer();
        check.illegalArgument("size 0", () -> x.submit(0, 0));
        check.illegalArgument("size 21", () -> x.submit(0, 21));
        check.illegalArgument("size least", () -> x.submit(0, Integer.MIN_VALUE));
        check.illegalArgument("dispatcher -1", () -> x.submit(-1, 1));
        check.illegalArgument("dispatcher 1", () -> x.submit(1, 1));
        check.due("size 1", x.submit(0, 1), 0);
        check.due("size 20", x.submit(0, 20), 0);
        check.due("work", x.work(0), 21);
    }

    private static void promise9AtMost200Jobs() {
        IdleDispatcher x = Start.with(2, 1);
        Start.submitTimes(x, 0, 1, 200);
        check.illegalState("201st job", () -> x.submit(0, 1));
        check.illegalArgument("201st job of a wrong size", () -> x.submit(0, 21));
        check.due("submitted()", x.submitted(), 200);
        check.due("length(1)", x.length(1), 100);
        check.due("tick(100)", x.tick(100), 200);
        check.illegalState("finished jobs count too", () -> x.submit(0, 1));
        x.undo();
        x.undo();
        check.due("undone jobs do not", x.submit(0, 1), 1);
    }

    // With the state 1 the draws begin 16838, 5758, 10113, 17515, 31051, 5627, 23010, 7419,
    // modulo 3: 2, 1, 0, 1, 1, 2, 0, 0.
    private static void promise9Random() {
        IdleDispatcher x = Start.with(3, 0);
        check.due("policy 0", Start.taken(x, 0, 1, 8), "21011200");
        IdleDispatcher y = Start.with(4, 0);
        y.setUp(1, false);
        check.due("policy 0 among the ones that are up", Start.taken(y, 0, 1, 8), "32022300");
    }

    private static void promise9InTurn() {
        IdleDispatcher x = Start.with(3, 1, 1);
        check.due("policy 1", Start.taken(x, 0, 1, 5), "01201");
        check.due("each dispatcher has a pointer", Start.taken(x, 1, 1, 2), "01");
        x.setUp(2, false);
        check.due("none at or behind the pointer", x.submit(0, 1), 0);
        x.setUp(2, true);
        x.setUp(1, false);
        check.due("the next one behind the pointer", x.submit(0, 1), 2);
    }

    private static void promise9InTurnPointerBehindTheLast() {
        IdleDispatcher x = Start.with(2, 1);
        check.due("policy 1", Start.taken(x, 0, 1, 2), "01");
        x.addServer();
        check.due("a server came where the pointer is", x.submit(0, 1), 2);
    }

    // Modulo 4 the draws begin 2, 2, 1, 3, 3, 3, 2, 3, 0, 2, 1, 3, 0, 0.
    private static void promise9TwoChoices() {
        IdleDispatcher x = Start.with(4, 2);
        check.due("2 and 2", x.submit(0, 9), 2);
        check.due("1 and 3, equal: the first", x.submit(0, 9), 1);
        check.due("3 and 3", x.submit(0, 9), 3);
        check.due("2 and 3, equal: the first", x.submit(0, 9), 2);
        check.due("0 and 2: 0 is shorter", x.submit(0, 9), 0);
        check.due("1 and 3, equal: the first", x.submit(0, 9), 1);
        check.due("length(1)", x.length(1), 2);
        x.setRandom(1);
        check.due("2 and 2 once more", x.submit(0, 9), 2);
        check.due("1 and 3: the second is shorter", x.submit(0, 9), 3);
    }

    private static void promise9IdleQueue() {
        IdleDispatcher x = Start.with(3, 3, 0);
        check.due("list of 0", Start.idleList(x, 0), "02");
        check.due("the first of the list", x.submit(0, 2), 0);
        check.due("taken out", Start.idleList(x, 0), "2");
        check.due("the next of the list", x.submit(0, 5), 2);
        // Nothing has been drawn so far: modulo 3 the draws begin 2, 1.
        check.due("empty: draw", x.submit(0, 1), 2);
        check.due("empty: draw, out of the list of 1", x.submit(0, 1), 1);
        check.due("list of 1", Start.idleList(x, 1), "");
    }

    private static void promise9LeavesTheListOfAnyDispatcher() {
        IdleDispatcher x = Start.with(4, 3, 1);
        check.due("list of 0", Start.idleList(x, 0), "02");
        x.submit(1, 5);
        check.due("0 has got a job from 1", Start.idleList(x, 0), "2");
        check.due("registeredAt(0)", x.registeredAt(0), -1);
        check.due("list of 1", Start.idleList(x, 1), "13");
    }

    private static void promise9StaleReports() {
        IdleDispatcher x = Start.with(3, 4, 4);
        check.due("policy 4, lowest of equal ones", Start.taken(x, 0, 9, 4), "0120");
        check.due("its table", x.knownLength(0, 0), 2);
        check.due("the table of the other one", x.knownLength(1, 0), 0);
        check.due("the other one begins anew", x.submit(1, 9), 0);
        x.setUp(1, false);
        check.due("among the ones that are up", Start.taken(x, 0, 9, 2), "20");
        x.tick(8);
        // The lengths are now 4, 1, 2.
        x.setUp(1, true);
        check.due("after the report", Start.taken(x, 0, 9, 4), "1121");
        check.due("the report went to both", x.knownLength(1, 0), 4);
    }

    private static void promise9AllServersAndDispatchers() {
        IdleDispatcher x = Start.with(8, 4, 3, 1, 2);
        check.due("policy 4", Start.taken(x, 0, 1, 9), "012345670");
        check.due("policy 1", Start.taken(x, 2, 1, 9), "012345670");
        x.setUp(7, false);
        check.due("policy 4 without 7", Start.taken(x, 0, 1, 7), "1234560");
        x.tick(8);
        // Server 0 had five jobs, the others three each.
        check.due("idle again", Start.idleList(x, 0), "40");
        check.due("idle again, but for 7, which is down", Start.idleList(x, 3), "3");
        check.due("policy 3", Start.taken(x, 1, 1, 2), "15");
    }

    private static void promise10Refusals() {
        IdleDispatcher x = new IdleDispatcher();
        check.illegalArgument("tick(-1)", () -> x.tick(-1));
        check.illegalArgument("tick(501)", () -> x.tick(501));
        check.due("tick(0)", x.tick(0), 0);
        check.due("tick(500)", x.tick(500), 0);
        check.due("now()", x.now(), 500);
        check.due("tick(0) is undoable too", x.undo(), 1);
    }

    private static void promise10Finishes() {
        IdleDispatcher x = Start.with(2, 1);
        x.submit(0, 2);
        x.submit(0, 1);
        x.submit(0, 3);
        check.due("tick 1", x.tick(1), 1);
        check.due("work(0)", x.work(0), 4);
        check.due("work(1)", x.work(1), 0);
        check.due("tick 2", x.tick(1), 1);
        check.due("length(0)", x.length(0), 1);
        check.due("the next job waits for the next tick", x.work(0), 3);
        check.due("ticks 3 and 4", x.tick(2), 0);
        check.due("tick 5", x.tick(1), 1);
        check.due("finished()", x.finished(), 3);
        check.due("nothing left", x.tick(500), 0);
    }

    private static void promise10RegistersInOrder() {
        IdleDispatcher x = Start.with(4, 1);
        x.submit(0, 2);
        x.submit(0, 1);
        x.submit(0, 2);
        x.submit(0, 2);
        x.setUp(2, false);
        check.due("all busy", Start.idleList(x, 0), "");
        x.tick(1);
        check.due("1 is idle first", Start.idleList(x, 0), "1");
        x.tick(1);
        check.due("then 0 and 3, but not 2, which is down", Start.idleList(x, 0), "103");
        check.due("registeredAt(2)", x.registeredAt(2), -1);
    }

    private static void promise10Reports() {
        IdleDispatcher x = Start.with(2, 1);
        x.submit(0, 8);
        x.submit(0, 8);
        x.submit(0, 8);
        x.tick(7);
        check.due("before tick 8", x.knownLength(0, 0), 0);
        x.tick(1);
        check.due("at the end of tick 8, after the work", x.knownLength(0, 0), 1);
        check.due("at the end of tick 8, after the work", x.knownLength(0, 1), 0);
        x.tick(7);
        check.due("before tick 16", x.knownLength(0, 0), 1);
        x.tick(3);
        check.due("tick 16 within a longer call", x.knownLength(0, 0), 0);
    }
}
