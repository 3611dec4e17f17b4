/** Promises 11 to 24: what servers, dispatchers and jobs answer. */
public final class ReadingTest {
    private static final Check check = new Check();

    public static void main(String[] args) {
        promises11To13Servers();
        promises14To16Dispatchers();
        promise17Refusals();
        promise17CertainServers();
        promise17Draws();
        promise17ChangesNothing();
        promises18To21Jobs();
        promise21WaitOf();
        promise22MeanWait();
        promise23Missed();
        promise23OnlyOneIsIdle();
        promise24Now();
        check.end();
    }

    private static void promises11To13Servers() {
        IdleDispatcher x = Start.with(2, 1, 0);
        x.submit(0, 7);
        x.submit(0, 5);
        x.submit(0, 4);
        x.tick(5);
        check.due("length(0)", x.length(0), 2);
        check.due("work(0)", x.work(0), 6);
        check.due("registeredAt(0)", x.registeredAt(0), IdleDispatcher.NONE);
        check.due("length(1)", x.length(1), 0);
        check.due("work(1)", x.work(1), 0);
        check.due("registeredAt(1)", x.registeredAt(1), 1);
        for (int wrong : new int[] {-1, 2, 8, Integer.MIN_VALUE, Integer.MAX_VALUE}) {
            check.illegalArgument("length(" + wrong + ")", () -> x.length(wrong));
            check.illegalArgument("work(" + wrong + ")", () -> x.work(wrong));
            check.illegalArgument("registeredAt(" + wrong + ")", () -> x.registeredAt(wrong));
        }
    }

    private static void promises14To16Dispatchers() {
        IdleDispatcher x = Start.with(5, 3, 4);
        check.due("idleCount(0)", x.idleCount(0), 3);
        check.due("idleCount(1)", x.idleCount(1), 2);
        check.due("idleAt(0, 0)", x.idleAt(0, 0), 0);
        check.due("idleAt(0, 2)", x.idleAt(0, 2), 4);
        check.outOfBounds("idleAt(0, 3)", () -> x.idleAt(0, 3));
        check.outOfBounds("idleAt(0, -1)", () -> x.idleAt(0, -1));
        check.outOfBounds("idleAt(1, 8)", () -> x.idleAt(1, 8));
        check.due("policy 4 in turn", Start.taken(x, 1, 2, 2), "01");
        check.due("knownLength(1, 1)", x.knownLength(1, 1), 1);
        check.due("knownLength(1, 2)", x.knownLength(1, 2), 0);
        check.due("knownLength(0, 0)", x.knownLength(0, 0), 0);
        check.due("idleCount(1) when 1 has a job", x.idleCount(1), 1);
        check.illegalArgument("knownLength(0, 5)", () -> x.knownLength(0, 5));
        check.illegalArgument("knownLength(0, -1)", () -> x.knownLength(0, -1));
        for (int wrong : new int[] {-1, 2, 4, Integer.MIN_VALUE, Integer.MAX_VALUE}) {
            check.illegalArgument("idleCount(" + wrong + ")", () -> x.idleCount(wrong));
            check.illegalArgument("idleAt(" + wrong + ", 0)", () -> x.idleAt(wrong, 0));
            check.illegalArgument("idleAt(" + wrong + ", 9): the first listed", () -> x.idleAt(wrong, 9));
            check.illegalArgument("knownLength(" + wrong + ", 0)", () -> x.knownLength(wrong, 0));
        }
    }

    private static void promise17Refusals() {
        IdleDispatcher x = Start.with(0, 3);
        check.illegalState("no server", () -> x.expectedLength(0, 0));
        check.illegalArgument("part 2, listed first", () -> x.expectedLength(0, 2));
        check.illegalArgument("dispatcher 1, listed first", () -> x.expectedLength(1, 0));
        x.addServer();
        x.setUp(0, false);
        check.illegalState("all down", () -> x.expectedLength(0, 1));
        x.setUp(0, true);
        check.due("idle list", Start.expected(x, 0), "0/1");
        check.illegalArgument("part -1", () -> x.expectedLength(0, -1));
        check.illegalArgument("part 2", () -> x.expectedLength(0, 2));
        check.illegalArgument("dispatcher -1", () -> x.expectedLength(-1, 0));
        check.illegalArgument("dispatcher 1", () -> x.expectedLength(1, 1));
    }

    private static void promise17CertainServers() {
        IdleDispatcher x = Start.with(3, 1, 4, 3);
        Start.submitTimes(x, 0, 20, 4);
        // The lengths are 2, 1, 1, and the pointer is at 1.
        check.due("in turn", Start.expected(x, 0), "1/1");
        check.due("stale: 0 looks shortest", Start.expected(x, 1), "2/1");
        x.submit(1, 20);
        check.due("stale: then 1 looks shortest", Start.expected(x, 1), "1/1");
        check.due("join-idle-queue, empty list: as random", Start.expected(x, 2), "5/3");
        x.addServer();
        check.due("3 joined the list of 0", Start.idleList(x, 0), "3");
        check.due("join-idle-queue, empty list: as random", Start.expected(x, 2), "5/4");
        x.setPolicy(0, 3);
        check.due("join-idle-queue, idle server", Start.expected(x, 0), "0/1");
    }

    private static void promise17Draws() {
        IdleDispatcher x = Start.with(4, 0, 2, 1);
        check.due("random, all empty", Start.expected(x, 0), "0/1");
        check.due("two choices, all empty", Start.expected(x, 1), "0/1");
        Start.submitTimes(x, 2, 20, 6);
        // The lengths are 2, 2, 1, 1.
        check.due("random 6/4", Start.expected(x, 0), "3/2");
        check.due("two choices 20/16", Start.expected(x, 1), "5/4");
        x.setUp(0, false);
        check.due("random among three, 4/3", Start.expected(x, 0), "4/3");
        check.due("two choices among three, 10/9", Start.expected(x, 1), "10/9");
        x.setUp(2, false);
        x.setUp(3, false);
        check.due("random, one", Start.expected(x, 0), "2/1");
        check.due("two choices, one", Start.expected(x, 1), "2/1");
    }

    private static void promise17ChangesNothing() {
        IdleDispatcher x = Start.with(3, 0, 1, 2, 4);
        Start.submitTimes(x, 1, 3, 2);
        long before = x.digest();
        for (int d = 0; d < 4; d++) {
            x.expectedLength(d, 0);
            x.expectedLength(d, 1);
        }
        check.due("digest() after expectedLength", x.digest(), before);
    }

    private static void promises18To21Jobs() {
        IdleDispatcher x = Start.with(2, 1);
        check.outOfBounds("serverOf(0)", () -> x.serverOf(0));
        check.outOfBounds("waitOf(0)", () -> x.waitOf(0));
        Start.submitTimes(x, 0, 2, 3);
        check.due("submitted()", x.submitted(), 3);
        check.due("finished()", x.finished(), 0);
        check.due("serverOf(0)", x.serverOf(0), 0);
        check.due("serverOf(1)", x.serverOf(1), 1);
        check.due("serverOf(2)", x.serverOf(2), 0);
        x.tick(3);
        check.due("submitted() later", x.submitted(), 3);
        check.due("finished() later", x.finished(), 2);
        check.due("serverOf(1) when it is finished", x.serverOf(1), 1);
        for (int wrong : new int[] {-1, 3, 200, Integer.MIN_VALUE, Integer.MAX_VALUE}) {
            check.outOfBounds("serverOf(" + wrong + ")", () -> x.serverOf(wrong));
            check.outOfBounds("waitOf(" + wrong + ")", () -> x.waitOf(wrong));
        }
    }

    private static void promise21WaitOf() {
        IdleDispatcher x = Start.with(1, 0);
        x.tick(5);
        x.submit(0, 4);
        x.tick(1);
        x.submit(0, 2);
        x.submit(0, 1);
        check.due("came to an empty queue", x.waitOf(0), 0);
        check.due("has not begun", x.waitOf(1), IdleDispatcher.NONE);
        x.tick(2);
        check.due("has not begun in tick 8", x.waitOf(1), IdleDispatcher.NONE);
        x.tick(1);
        check.due("begins in tick 9, came in 6", x.waitOf(1), 3);
        check.due("has not begun", x.waitOf(2), IdleDispatcher.NONE);
        x.tick(100);
        check.due("began in tick 11, came in 6", x.waitOf(2), 5);
        check.due("stays", x.waitOf(0), 0);
        x.submit(0, 1);
        check.due("came to the empty queue again", x.waitOf(3), 0);
    }

    private static void promise22MeanWait() {
        IdleDispatcher x = Start.with(1, 0);
        check.due("no job", x.meanWait(), 0.0);
        x.submit(0, 4);
        check.due("wait 0", x.meanWait(), 0.0);
        x.submit(0, 1);
        x.submit(0, 1);
        check.due("jobs that wait do not count", x.meanWait(), 0.0);
        x.tick(4);
        check.due("0 and 4", x.meanWait(), 2.0);
        x.tick(1);
        check.due("0, 4 and 5", x.meanWait(), 9.0 / 3.0);
        x.submit(0, 1);
        check.due("another waits", x.meanWait(), 3.0);
        x.tick(1);
        check.due("0, 4, 5 and 1", x.meanWait(), 2.5);
    }

    private static void promise23Missed() {
        IdleDispatcher x = Start.with(2, 1);
        x.submit(0, 9);
        check.due("sent to an idle server", x.missed(), 0);
        x.setUp(1, false);
        x.submit(0, 9);
        check.due("the other one is empty but down", x.missed(), 0);
        x.setUp(1, true);
        x.submit(0, 9);
        check.due("sent to an idle server again", x.missed(), 0);
        x.submit(0, 9);
        check.due("none is idle", x.missed(), 0);
        x.addServer();
        x.setPolicy(0, 4);
        x.submit(0, 9);
        check.due("0 looks shortest, 2 is idle", x.missed(), 1);
        x.submit(0, 9);
        check.due("then 1, and 2 is still idle", x.missed(), 2);
        x.submit(0, 9);
        check.due("then 2 itself", x.missed(), 2);
        x.undo();
        x.undo();
        check.due("undone", x.missed(), 1);
    }

    private static void promise23OnlyOneIsIdle() {
        for (int idle = 0; idle < 8; idle++) {
            IdleDispatcher x = Start.with(8, 1);
            x.setUp(idle, false);
            Start.submitTimes(x, 0, 20, 7);
            check.due("all that are up were idle", x.missed(), 0);
            x.submit(0, 20);
            check.due("none is idle", x.missed(), 0);
            x.setUp(idle, true);
            int taken = x.submit(0, 20);
            check.due("only " + idle + " is idle", x.missed(), taken == idle ? 0 : 1);
        }
    }

    private static void promise24Now() {
        IdleDispatcher x = new IdleDispatcher();
        x.tick(3);
        check.due("now()", x.now(), 3);
        x.tick(0);
        check.due("now() after tick(0)", x.now(), 3);
        x.tick(500);
        check.due("now() after tick(500)", x.now(), 503);
        x.undo();
        check.due("now() after undo()", x.now(), 3);
    }
}
