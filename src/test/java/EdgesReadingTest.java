/** Promises 11 to 24 at their edges: a test for each sentence of the document that names one. */
public final class EdgesReadingTest {
    private static final int NONE = IdleDispatcher.NONE;
    private static final int[] WRONG_EVERYWHERE = {Integer.MIN_VALUE, -1, Integer.MAX_VALUE};

    private static final Check check = new Check();

    public static void main(String[] args) {
        Tests.runAll(EdgesReadingTest.class, 11, 24, check);
    }

    /** With 0 to 8 servers the call takes the numbers of those that there are and no other. */
    private static void takesServersOnly(String name, int answerOfANewOne) {
        IdleDispatcher x = new IdleDispatcher();
        for (int count = 0; count <= 8; count++) {
            int next = count;
            check.illegalArgument(name + "(" + count + ")", () -> Call.on(x, name, next, 0));
            if (count < 8) {
                x.addServer();
                check.due(name + "(" + count + ") then", (int) Call.on(x, name, count, 0), answerOfANewOne);
                check.due(name + "(0) still", (int) Call.on(x, name, 0, 0), answerOfANewOne);
            }
        }
        for (int wrong : WRONG_EVERYWHERE) {
            check.illegalArgument(name + "(" + wrong + ")", () -> Call.on(x, name, wrong, 0));
        }
    }

    /** With 0 to 4 dispatchers, and one server, the call takes the numbers of those that there are. */
    private static void takesDispatchersOnly(String name, int second) {
        IdleDispatcher x = new IdleDispatcher();
        x.addServer();
        for (int count = 0; count <= 4; count++) {
            int next = count;
            check.illegalArgument(name + "(" + count + ", " + second + ")", () -> Call.on(x, name, next, second));
            if (count < 4) {
                x.addDispatcher(0);
                check.due(name + "(" + count + ", " + second + ") then", (int) Call.on(x, name, count, second), 0);
            }
        }
        for (int wrong : WRONG_EVERYWHERE) {
            check.illegalArgument(name + "(" + wrong + ", " + second + ")", () -> Call.on(x, name, wrong, second));
        }
    }

    // ---- 11: length

    private static void promise11NumbersOfServers() {
        takesServersOnly("length", 0);
    }

    // "the number of jobs in its queue, the one in service included"
    private static void promise11TheJobInServiceCounts() {
        IdleDispatcher x = Start.with(1, 0);
        check.due("empty", x.length(0), 0);
        x.submit(0, 2);
        check.due("one", x.length(0), 1);
        x.tick(1);
        check.due("one, half done", x.length(0), 1);
        x.tick(1);
        check.due("empty again", x.length(0), 0);
    }

    private static void promise11UpToTwoHundred() {
        IdleDispatcher x = Start.with(2, 1);
        x.setUp(1, false);
        Start.submitTimes(x, 0, 20, 200);
        check.due("length(0)", x.length(0), 200);
        check.due("length(1)", x.length(1), 0);
    }

    private static void promise11OfAServerThatIsDown() {
        IdleDispatcher x = Start.with(1, 0);
        Start.submitTimes(x, 0, 3, 2);
        x.setUp(0, false);
        check.due("set down", x.length(0), 2);
        x.tick(3);
        check.due("served while down", x.length(0), 1);
    }

    // ---- 12: work

    private static void promise12NumbersOfServers() {
        takesServersOnly("work", 0);
    }

    // "the sum of what is left of their sizes"
    private static void promise12WhatIsLeft() {
        IdleDispatcher x = Start.with(1, 0);
        x.submit(0, 1);
        x.submit(0, 20);
        check.due("nothing is done", x.work(0), 21);
        x.tick(1);
        check.due("one is finished", x.work(0), 20);
        x.tick(19);
        check.due("one is left", x.work(0), 1);
        x.tick(1);
        check.due("all is done", x.work(0), 0);
        x.tick(1);
        check.due("it does not go below 0", x.work(0), 0);
    }

    private static void promise12UpToFourThousand() {
        IdleDispatcher x = Start.with(1, 0);
        Start.submitTimes(x, 0, 20, 200);
        check.due("work(0)", x.work(0), 4000);
        x.tick(500);
        check.due("work(0) later", x.work(0), 3500);
        check.due("length(0) later", x.length(0), 175);
    }

    private static void promise12OfAServerThatIsDown() {
        IdleDispatcher x = Start.with(1, 0);
        x.submit(0, 5);
        x.setUp(0, false);
        check.due("set down", x.work(0), 5);
        x.tick(2);
        check.due("served while down", x.work(0), 3);
    }

    // ---- 13: registeredAt

    private static void promise13NumbersOfServers() {
        takesServersOnly("registeredAt", NONE);
    }

    private static void promise13EachDispatcher() {
        IdleDispatcher x = Start.with(8, 0, 1, 2, 3);
        for (int s = 0; s < 8; s++) {
            check.due("registeredAt(" + s + ")", x.registeredAt(s), s % 4);
        }
    }

    // "NONE if the server is in no idle list"
    private static void promise13NoneIfBusyDownOrWithoutDispatchers() {
        IdleDispatcher x = new IdleDispatcher();
        x.addServer();
        check.due("no dispatcher", x.registeredAt(0), NONE);
        x.addDispatcher(1);
        x.submit(0, 1);
        check.due("busy", x.registeredAt(0), NONE);
        x.tick(1);
        check.due("idle", x.registeredAt(0), 0);
        x.setUp(0, false);
        check.due("down", x.registeredAt(0), NONE);
    }

    // "A server is in at most one idle list."
    private static void promise13InAtMostOneList() {
        IdleDispatcher x = Start.with(8, 0, 3, 2, 3);
        for (int mode = 0; mode <= 2; mode++) {
            x.setJoinMode(mode);
            for (int i = 0; i < 8; i++) {
                x.submit(i % 4, 1);
                x.setUp(i, false);
                x.tick(1);
                x.setUp(i, true);
            }
            x.tick(20);
            eachServerIsInItsListOnly(x);
        }
    }

    private static void eachServerIsInItsListOnly(IdleDispatcher x) {
        String all = "";
        for (int d = 0; d < 4; d++) {
            String list = Start.idleList(x, d);
            all += list;
            for (char s : list.toCharArray()) {
                check.due("registeredAt(" + s + ")", x.registeredAt(s - '0'), d);
            }
        }
        check.due("servers in all lists", all.length(), 8);
        check.due("different servers in all lists", all.chars().distinct().count(), 8);
    }

    // ---- 14: idleCount

    private static void promise14NumbersOfDispatchers() {
        takesDispatchersOnly("idleCount", 0);
    }

    private static void promise14From0To8() {
        IdleDispatcher x = Start.with(0, 1);
        for (int s = 0; s < 8; s++) {
            check.due("idleCount(0)", x.idleCount(0), s);
            x.addServer();
        }
        check.due("the full list", x.idleCount(0), 8);
        for (int s = 7; s >= 0; s--) {
            x.submit(0, 20);
            check.due("idleCount(0)", x.idleCount(0), s);
        }
        x.submit(0, 20);
        check.due("the empty list", x.idleCount(0), 0);
    }

    // "Each dispatcher has an idle list of servers, whatever its policy is."
    private static void promise14WhateverThePolicy() {
        for (int policy = 0; policy <= 4; policy++) {
            IdleDispatcher x = Start.with(2, policy);
            check.due("policy " + policy, x.idleCount(0), 2);
        }
    }

    // ---- 15: idleAt

    private static void promise15NumbersOfDispatchers() {
        IdleDispatcher x = new IdleDispatcher();
        for (int count = 0; count <= 4; count++) {
            int next = count;
            check.illegalArgument("idleAt(" + count + ", 0)", () -> x.idleAt(next, 0));
            if (count < 4) {
                x.addDispatcher(0);
                check.outOfBounds("idleAt(" + count + ", 0) then", () -> x.idleAt(next, 0));
            }
        }
    }

    // "Throws IndexOutOfBoundsException if the list has no such index"
    private static void promise15TheEmptyListHasNoIndex() {
        IdleDispatcher x = Start.with(0, 3);
        check.outOfBounds("idleAt(0, 0)", () -> x.idleAt(0, 0));
        check.outOfBounds("idleAt(0, 1)", () -> x.idleAt(0, 1));
        for (int wrong : WRONG_EVERYWHERE) {
            check.outOfBounds("idleAt(0, " + wrong + ")", () -> x.idleAt(0, wrong));
        }
    }

    private static void promise15ListsFromOneToEight() {
        IdleDispatcher x = Start.with(0, 3);
        for (int count = 1; count <= 8; count++) {
            int behind = count;
            x.addServer();
            check.due("idleAt(0, 0)", x.idleAt(0, 0), 0);
            check.due("idleAt(0, " + (count - 1) + ")", x.idleAt(0, count - 1), count - 1);
            check.outOfBounds("idleAt(0, " + count + ")", () -> x.idleAt(0, behind));
        }
        for (int wrong : WRONG_EVERYWHERE) {
            check.outOfBounds("idleAt(0, " + wrong + ")", () -> x.idleAt(0, wrong));
        }
    }

    private static void promise15WhatHasLeftIsNoIndexAnyMore() {
        IdleDispatcher x = Start.with(2, 3);
        x.submit(0, 5);
        check.due("idleAt(0, 0)", x.idleAt(0, 0), 1);
        check.outOfBounds("idleAt(0, 1)", () -> x.idleAt(0, 1));
        x.submit(0, 5);
        check.outOfBounds("idleAt(0, 0)", () -> x.idleAt(0, 0));
    }

    // "If several exceptions apply, the one that is listed first is thrown."
    private static void promise15WrongDispatcherComesBeforeWrongIndex() {
        IdleDispatcher x = Start.with(2, 3);
        for (int wrong : WRONG_EVERYWHERE) {
            check.illegalArgument("idleAt(1, " + wrong + ")", () -> x.idleAt(1, wrong));
            check.illegalArgument("idleAt(-1, " + wrong + ")", () -> x.idleAt(-1, wrong));
        }
        check.illegalArgument("idleAt(1, 2)", () -> x.idleAt(1, 2));
    }

    // ---- 16: knownLength

    private static void promise16NumbersOfDispatchers() {
        takesDispatchersOnly("knownLength", 0);
    }

    private static void promise16NumbersOfServers() {
        IdleDispatcher x = Start.with(0, 0);
        for (int count = 0; count <= 8; count++) {
            int next = count;
            check.illegalArgument("knownLength(0, " + count + ")", () -> x.knownLength(0, next));
            if (count < 8) {
                x.addServer();
                check.due("knownLength(0, " + count + ") then", x.knownLength(0, count), 0);
            }
        }
        for (int wrong : WRONG_EVERYWHERE) {
            check.illegalArgument("knownLength(0, " + wrong + ")", () -> x.knownLength(0, wrong));
            check.illegalArgument("knownLength(1, " + wrong + ")", () -> x.knownLength(1, wrong));
        }
    }

    // "Each dispatcher has a table with a length for each server, initially 0."
    private static void promise16Initially0() {
        IdleDispatcher x = Start.with(8, 0, 1, 2, 4);
        Start.submitTimes(x, 1, 20, 8);
        for (int d = 0; d < 4; d++) {
            for (int s = 0; s < 8; s++) {
                check.due("knownLength(" + d + ", " + s + ")", x.knownLength(d, s), 0);
            }
        }
    }

    private static void promise16UpToTwoHundred() {
        IdleDispatcher x = Start.with(1, 4, 0);
        Start.submitTimes(x, 0, 20, 200);
        check.due("knownLength(0, 0)", x.knownLength(0, 0), 200);
        check.due("knownLength(1, 0)", x.knownLength(1, 0), 0);
        x.tick(8);
        check.due("knownLength(1, 0) after the report", x.knownLength(1, 0), 200);
    }

    // ---- 17: expectedLength

    private static void promise17NumbersOfDispatchers() {
        takesDispatchersOnly("expectedLength", 0);
    }

    // "part is neither 0 nor 1"
    private static void promise17Parts() {
        IdleDispatcher x = Start.with(1, 0);
        Start.submitTimes(x, 0, 9, 3);
        check.due("expectedLength(0, 0)", x.expectedLength(0, 0), 3);
        check.due("expectedLength(0, 1)", x.expectedLength(0, 1), 1);
        check.illegalArgument("expectedLength(0, 2)", () -> x.expectedLength(0, 2));
        for (int wrong : WRONG_EVERYWHERE) {
            check.illegalArgument("expectedLength(0, " + wrong + ")", () -> x.expectedLength(0, wrong));
        }
    }

    // "Throws IllegalStateException if no server is up"
    private static void promise17NoServerIsUp() {
        for (int policy = 0; policy <= 4; policy++) {
            IdleDispatcher x = Start.with(0, policy);
            check.illegalState("no server, policy " + policy, () -> x.expectedLength(0, 0));
            x.addServer();
            check.due("one server, policy " + policy, Start.expected(x, 0), "0/1");
            x.setUp(0, false);
            check.illegalState("it is down, numerator", () -> x.expectedLength(0, 0));
            check.illegalState("it is down, denominator", () -> x.expectedLength(0, 1));
        }
    }

    // "If several exceptions apply, the one that is listed first is thrown."
    private static void promise17WrongArgumentsComeBeforeNoServer() {
        IdleDispatcher x = Start.with(0, 0);
        check.illegalArgument("expectedLength(1, 0)", () -> x.expectedLength(1, 0));
        check.illegalArgument("expectedLength(0, 2)", () -> x.expectedLength(0, 2));
        check.illegalArgument("expectedLength(0, -1)", () -> x.expectedLength(0, -1));
        check.illegalArgument("expectedLength(-1, -1)", () -> x.expectedLength(-1, -1));
    }

    // "200 jobs" forbid a job, but not what would be expected of it.
    private static void promise17AfterTwoHundredJobs() {
        IdleDispatcher x = Start.with(1, 0);
        Start.submitTimes(x, 0, 20, 200);
        check.due("expected", Start.expected(x, 0), "200/1");
    }

    // "It is told as a fraction in lowest terms with a denominator above 0."
    private static void promise17ZeroIsToldAs0Over1() {
        for (int policy = 0; policy <= 4; policy++) {
            IdleDispatcher x = Start.with(8, policy);
            check.due("policy " + policy, Start.expected(x, 0), "0/1");
        }
    }

    private static void promise17LowestTerms() {
        // Of eight servers 0 to 8 have one job: k/8, and for two choices k * k / 64.
        String[] random = {"0/1", "1/8", "1/4", "3/8", "1/2", "5/8", "3/4", "7/8", "1/1"};
        String[] twoChoices = {"0/1", "1/64", "1/16", "9/64", "1/4", "25/64", "9/16", "49/64", "1/1"};
        IdleDispatcher x = Start.with(8, 0, 2, 1);
        for (int k = 0; k <= 8; k++) {
            check.due(k + " of 8, random", Start.expected(x, 0), random[k]);
            check.due(k + " of 8, two choices", Start.expected(x, 1), twoChoices[k]);
            x.submit(2, 20);
        }
    }

    private static void promise17AboveOne() {
        IdleDispatcher x = Start.with(3, 0, 2, 1);
        Start.submitTimes(x, 2, 20, 4);
        x.setUp(1, false);
        x.setUp(2, false);
        Start.submitTimes(x, 2, 20, 3);
        x.setUp(1, true);
        x.setUp(2, true);
        // The lengths are 5, 1, 1: 7/3, and of nine pairs one is 5 and eight are 1.
        check.due("random", Start.expected(x, 0), "7/3");
        check.due("two choices", Start.expected(x, 1), "13/9");
    }

    private static void promise17ServersThatAreDownDoNotCount() {
        IdleDispatcher x = Start.with(3, 0, 2, 1);
        Start.submitTimes(x, 2, 20, 4);
        x.setUp(2, false);
        // The lengths are 2 and 1.
        check.due("random", Start.expected(x, 0), "3/2");
        check.due("two choices", Start.expected(x, 1), "5/4");
        x.setUp(1, false);
        check.due("random, one server", Start.expected(x, 0), "2/1");
        check.due("two choices, one server", Start.expected(x, 1), "2/1");
    }

    // "in all other cases the server is certain"
    private static void promise17InTurnIsCertain() {
        IdleDispatcher x = Start.with(3, 1);
        Start.submitTimes(x, 0, 20, 4);
        check.due("at the pointer: 1", Start.expected(x, 0), "1/1");
        x.setUp(1, false);
        x.setUp(2, false);
        check.due("none behind the pointer: 0", Start.expected(x, 0), "2/1");
        x.addServer();
        check.due("the next behind the pointer: 3", Start.expected(x, 0), "0/1");
    }

    private static void promise17IdleQueueIsCertainWhileTheListHasOne() {
        IdleDispatcher x = Start.with(2, 3, 1);
        check.due("list of 0", Start.idleList(x, 0), "0");
        Start.submitTimes(x, 1, 20, 2);
        x.addServer();
        check.due("list of 0", Start.idleList(x, 0), "2");
        check.due("the idle one", Start.expected(x, 0), "0/1");
        x.submit(0, 20);
        check.due("the empty list: as random", Start.expected(x, 0), "1/1");
        x.submit(1, 20);
        check.due("the empty list: as random", Start.expected(x, 0), "4/3");
    }

    private static void promise17StaleReportsTellTheTrueLength() {
        IdleDispatcher x = Start.with(2, 4, 1);
        x.setUp(1, false);
        Start.submitTimes(x, 1, 20, 3);
        x.setUp(1, true);
        check.due("0 looks empty, but has 3", Start.expected(x, 0), "3/1");
        x.submit(0, 20);
        check.due("then 1", Start.expected(x, 0), "0/1");
        x.setUp(1, false);
        check.due("1 is down", Start.expected(x, 0), "4/1");
    }

    // "Nothing is changed, and no draw is made."
    private static void promise17ChangesNothing() {
        for (int policy = 0; policy <= 4; policy++) {
            IdleDispatcher x = Start.with(3, policy, 1);
            x.submit(1, 9);
            String before = Readings.of(x);
            Start.expected(x, 0);
            check.due("policy " + policy, Readings.of(x), before);
            check.due("draws, policy " + policy, Draws.made(x, 1, 0, 0, 1, 2), 0);
        }
    }

    // ---- 18: submitted

    private static void promise18From0To200() {
        IdleDispatcher x = Start.with(2, 1);
        for (int jobs = 0; jobs < 200; jobs++) {
            check.due("submitted()", x.submitted(), jobs);
            x.submit(0, 1);
        }
        check.due("submitted()", x.submitted(), 200);
    }

    private static void promise18RefusedJobsDoNotCount() {
        IdleDispatcher x = Start.with(1, 0);
        x.submit(0, 5);
        check.illegalArgument("submit(0, 0)", () -> x.submit(0, 0));
        check.illegalArgument("submit(1, 5)", () -> x.submit(1, 5));
        x.setUp(0, false);
        check.illegalState("submit(0, 5)", () -> x.submit(0, 5));
        check.due("submitted()", x.submitted(), 1);
    }

    private static void promise18FinishedJobsCountAndUndoneOnesDoNot() {
        IdleDispatcher x = Start.with(1, 0);
        Start.submitTimes(x, 0, 1, 3);
        x.undo();
        check.due("one is undone", x.submitted(), 2);
        x.tick(5);
        check.due("two are finished", x.submitted(), 2);
    }

    // ---- 19: finished

    private static void promise19From0To200() {
        IdleDispatcher x = Start.with(1, 0);
        check.due("no job", x.finished(), 0);
        Start.submitTimes(x, 0, 1, 200);
        check.due("none is finished", x.finished(), 0);
        x.tick(199);
        check.due("all but one", x.finished(), 199);
        x.tick(1);
        check.due("all", x.finished(), 200);
        x.tick(1);
        check.due("no more than all", x.finished(), 200);
    }

    private static void promise19OfServersThatAreDownToo() {
        IdleDispatcher x = Start.with(2, 1);
        Start.submitTimes(x, 0, 2, 2);
        x.setUp(1, false);
        x.tick(2);
        check.due("finished()", x.finished(), 2);
        x.undo();
        check.due("undone", x.finished(), 0);
    }

    // ---- 20: serverOf

    private static void promise20JobsFrom0To199() {
        IdleDispatcher x = Start.with(8, 1);
        for (int count = 0; count < 200; count++) {
            int next = count;
            if (count % 20 == 0) {
                check.outOfBounds("serverOf(" + count + ") before", () -> x.serverOf(next));
            }
            x.submit(0, 1);
            check.due("serverOf(" + count + ")", x.serverOf(count), count % 8);
        }
        check.due("serverOf(0)", x.serverOf(0), 0);
        check.outOfBounds("serverOf(200)", () -> x.serverOf(200));
    }

    private static void promise20OtherJobsAreRefused() {
        IdleDispatcher x = Start.with(1, 0);
        check.outOfBounds("no job: serverOf(0)", () -> x.serverOf(0));
        x.submit(0, 1);
        check.due("serverOf(0)", x.serverOf(0), 0);
        check.outOfBounds("serverOf(1)", () -> x.serverOf(1));
        for (int wrong : WRONG_EVERYWHERE) {
            check.outOfBounds("serverOf(" + wrong + ")", () -> x.serverOf(wrong));
        }
        x.undo();
        check.outOfBounds("undone: serverOf(0)", () -> x.serverOf(0));
    }

    private static void promise20OfAFinishedJobAndAServerThatIsDown() {
        IdleDispatcher x = Start.with(2, 1);
        Start.submitTimes(x, 0, 1, 2);
        x.tick(1);
        x.setUp(1, false);
        check.due("serverOf(0)", x.serverOf(0), 0);
        check.due("serverOf(1)", x.serverOf(1), 1);
    }

    // ---- 21: waitOf

    private static void promise21JobsFrom0To199() {
        IdleDispatcher x = Start.with(1, 0);
        Start.submitTimes(x, 0, 20, 200);
        check.due("waitOf(0)", x.waitOf(0), 0);
        check.due("waitOf(199)", x.waitOf(199), NONE);
        check.outOfBounds("waitOf(200)", () -> x.waitOf(200));
        for (int i = 0; i < 8; i++) {
            x.tick(500);
        }
        // The longest wait of all: 199 jobs of size 20 before it.
        check.due("waitOf(199) later", x.waitOf(199), 3980);
        check.due("waitOf(1) later", x.waitOf(1), 20);
    }

    private static void promise21OtherJobsAreRefused() {
        IdleDispatcher x = Start.with(1, 0);
        check.outOfBounds("no job: waitOf(0)", () -> x.waitOf(0));
        x.submit(0, 1);
        check.due("waitOf(0)", x.waitOf(0), 0);
        check.outOfBounds("waitOf(1)", () -> x.waitOf(1));
        for (int wrong : WRONG_EVERYWHERE) {
            check.outOfBounds("waitOf(" + wrong + ")", () -> x.waitOf(wrong));
        }
        x.undo();
        check.outOfBounds("undone: waitOf(0)", () -> x.waitOf(0));
    }

    // "a job that comes to an empty queue has wait 0"
    private static void promise21AnEmptyQueueIsWait0() {
        IdleDispatcher x = Start.with(1, 0);
        x.submit(0, 3);
        check.due("at tick 0", x.waitOf(0), 0);
        x.tick(3);
        x.submit(0, 2);
        check.due("at tick 3, when the queue has become empty", x.waitOf(1), 0);
        x.tick(50);
        x.submit(0, 2);
        check.due("at tick 53", x.waitOf(2), 0);
        check.due("job 0 still", x.waitOf(0), 0);
    }

    // "NONE if its service has not begun"
    private static void promise21NotBegunIsNone() {
        IdleDispatcher x = Start.with(1, 0);
        Start.submitTimes(x, 0, 2, 2);
        check.due("at tick 0", x.waitOf(1), NONE);
        x.tick(1);
        check.due("at tick 1", x.waitOf(1), NONE);
        x.tick(1);
        check.due("at tick 2", x.waitOf(1), 2);
    }

    // "a job that becomes the first one of its queue during tick t .. begins its service at time t"
    private static void promise21BeginsInTheTickInWhichTheJobBeforeIsFinished() {
        IdleDispatcher x = Start.with(1, 0);
        x.submit(0, 1);
        x.submit(0, 1);
        x.tick(1);
        check.due("wait 1", x.waitOf(1), 1);
        x.submit(0, 4);
        x.submit(0, 4);
        x.tick(1);
        check.due("came in tick 1, began in 2", x.waitOf(2), 1);
        x.tick(2);
        x.submit(0, 1);
        x.tick(2);
        check.due("came in tick 1, began in 6", x.waitOf(3), 5);
        check.due("came in tick 4, waits", x.waitOf(4), NONE);
        x.tick(4);
        check.due("came in tick 4, began in 10", x.waitOf(4), 6);
    }

    private static void promise21BeginsOnAServerThatIsDown() {
        IdleDispatcher x = Start.with(1, 0);
        Start.submitTimes(x, 0, 3, 2);
        x.setUp(0, false);
        x.tick(2);
        check.due("tick 2", x.waitOf(1), NONE);
        x.tick(1);
        check.due("tick 3", x.waitOf(1), 3);
    }

    private static void promise21StaysWhenTheJobIsFinished() {
        IdleDispatcher x = Start.with(1, 0);
        Start.submitTimes(x, 0, 3, 3);
        x.tick(500);
        check.due("waitOf(0)", x.waitOf(0), 0);
        check.due("waitOf(1)", x.waitOf(1), 3);
        check.due("waitOf(2)", x.waitOf(2), 6);
    }

    // ---- 22: meanWait

    // "0.0 if there is no such job"
    private static void promise22NoJobIs0() {
        IdleDispatcher x = Start.with(1, 0);
        check.due("no job", x.meanWait(), 0.0);
        x.submit(0, 5);
        x.undo();
        check.due("undone", x.meanWait(), 0.0);
        x.tick(100);
        check.due("later", x.meanWait(), 0.0);
    }

    private static void promise22JobsThatWaitDoNotCount() {
        IdleDispatcher x = Start.with(1, 0);
        Start.submitTimes(x, 0, 4, 9);
        check.due("one has begun", x.meanWait(), 0.0);
        x.tick(3);
        check.due("one has begun still", x.meanWait(), 0.0);
        x.tick(1);
        check.due("two have begun", x.meanWait(), 2.0);
    }

    private static void promise22FinishedJobsCount() {
        IdleDispatcher x = Start.with(1, 0);
        Start.submitTimes(x, 0, 2, 2);
        x.tick(500);
        check.due("0 and 2", x.meanWait(), 1.0);
    }

    // "the sum of their waits, converted to double, divided by their number, converted to double"
    private static void promise22ThirdsAreNotRounded() {
        IdleDispatcher x = Start.with(2, 1);
        x.submit(0, 1);
        x.submit(0, 5);
        x.submit(0, 5);
        x.tick(1);
        check.due("0, 0 and 1", x.meanWait(), 1.0 / 3.0);
        check.due("it is no whole number", x.meanWait() > 0.33 && x.meanWait() < 0.34, true);
    }

    private static void promise22OfTwoHundredJobs() {
        IdleDispatcher x = Start.with(1, 0);
        Start.submitTimes(x, 0, 20, 200);
        for (int i = 0; i < 8; i++) {
            x.tick(500);
        }
        // 20 * (0 + 1 + .. + 199) = 398000.
        check.due("meanWait()", x.meanWait(), 398000.0 / 200.0);
    }

    // ---- 23: missed

    private static void promise23NoJobIsMissed() {
        IdleDispatcher x = Start.with(2, 0);
        check.due("no job", x.missed(), 0);
        x.tick(100);
        check.due("no job later", x.missed(), 0);
    }

    // "the server to which the job was sent is looked at before the job comes to it"
    private static void promise23TheServerIsLookedAtBeforeTheJobComes() {
        IdleDispatcher x = Start.with(3, 1);
        Start.submitTimes(x, 0, 9, 2);
        check.due("to empty servers, while others are idle", x.missed(), 0);
        x.submit(0, 9);
        check.due("to the last idle one", x.missed(), 0);
    }

    private static void promise23ASingleServerNeverMisses() {
        IdleDispatcher x = Start.with(1, 0);
        Start.submitTimes(x, 0, 9, 3);
        check.due("missed()", x.missed(), 0);
    }

    // "a server with a length above 0 although some server was idle"
    private static void promise23Length1WhileOneIsIdle() {
        IdleDispatcher x = Start.with(2, 1, 1);
        x.submit(0, 9);
        check.due("length 0", x.missed(), 0);
        x.submit(1, 9);
        check.due("length 1, and 1 is idle", x.missed(), 1);
        x.submit(1, 9);
        check.due("to 1 itself", x.missed(), 1);
        x.submit(1, 9);
        check.due("none is idle", x.missed(), 1);
    }

    private static void promise23AnySingleServerThatIsIdleCounts() {
        for (int idle = 0; idle < 8; idle++) {
            IdleDispatcher x = Start.with(8, 1, 0);
            x.setUp(idle, false);
            Start.submitTimes(x, 0, 20, 7);
            x.setUp(idle, true);
            x.setRandom(Draws.stateBefore(8, (idle + 1) % 8));
            x.submit(1, 20);
            check.due("only " + idle + " is idle", x.missed(), 1);
        }
    }

    private static void promise23AnEmptyServerThatIsDownIsNotIdle() {
        IdleDispatcher x = Start.with(2, 1, 1);
        x.submit(0, 9);
        x.setUp(1, false);
        x.submit(1, 9);
        check.due("1 is down", x.missed(), 0);
        x.setUp(1, true);
        x.setPolicy(0, 4);
        x.submit(0, 9);
        check.due("1 is up again", x.missed(), 1);
    }

    // A server is idle if it is up and its length is 0, in a list or not.
    private static void promise23AServerInNoListIsIdleToo() {
        IdleDispatcher x = new IdleDispatcher();
        x.addServer();
        x.addServer();
        x.addDispatcher(1);
        x.addDispatcher(1);
        check.due("registeredAt(1)", x.registeredAt(1), NONE);
        x.submit(0, 9);
        x.submit(1, 9);
        check.due("missed()", x.missed(), 1);
    }

    private static void promise23ABusyServerBecomesIdleWithItsLastTick() {
        IdleDispatcher x = Start.with(2, 1, 4);
        x.submit(0, 9);
        x.submit(0, 2);
        x.tick(1);
        x.submit(1, 1);
        check.due("1 has a tick to go", x.missed(), 0);
        x.tick(1);
        x.setPolicy(0, 4);
        x.submit(0, 1);
        check.due("1 is idle, 0 looks shortest", x.missed(), 1);
    }

    private static void promise23WithEachPolicy() {
        for (int policy = 0; policy <= 4; policy++) {
            IdleDispatcher x = Start.with(2, policy, 1, 1);
            // Server 0 is busy, 1 is down, 2 is idle and in the list of dispatcher 2.
            x.submit(1, 20);
            x.setUp(1, false);
            x.addServer();
            x.setRandom(Draws.stateBefore(2, 0, 0));
            check.due("list of 0", Start.idleList(x, 0), "");
            check.due("policy " + policy + " sends to", x.submit(0, 5), 0);
            check.due("policy " + policy, x.missed(), 1);
        }
    }

    private static void promise23UndoneAndRefusedJobsDoNotCount() {
        IdleDispatcher x = Start.with(2, 1, 1);
        x.submit(0, 9);
        x.submit(1, 9);
        check.due("one", x.missed(), 1);
        check.illegalArgument("submit(0, 21)", () -> x.submit(0, 21));
        check.due("one still", x.missed(), 1);
        x.undo();
        check.due("undone", x.missed(), 0);
    }

    private static void promise23AllButTheFirst() {
        IdleDispatcher x = Start.with(2, 0);
        int toServer0 = Draws.stateBefore(2, 0);
        for (int i = 0; i < 200; i++) {
            x.setRandom(toServer0);
            x.submit(0, 20);
        }
        check.due("length(0)", x.length(0), 200);
        check.due("missed()", x.missed(), 199);
    }

    // ---- 24: now

    private static void promise24CountsTheTicks() {
        IdleDispatcher x = new IdleDispatcher();
        check.due("new", x.now(), 0);
        x.tick(0);
        check.due("tick(0)", x.now(), 0);
        x.tick(1);
        check.due("tick(1)", x.now(), 1);
        x.tick(500);
        check.due("tick(500)", x.now(), 501);
    }

    private static void promise24OnlyTickAndUndoChangeIt() {
        IdleDispatcher x = Start.with(2, 0);
        x.tick(7);
        x.submit(0, 1);
        x.addServer();
        x.setUp(0, false);
        check.due("other calls", x.now(), 7);
        x.tick(3);
        x.undo();
        check.due("undo()", x.now(), 7);
        check.illegalArgument("tick(501)", () -> x.tick(501));
        check.due("a refused call", x.now(), 7);
    }

    // "An object is used for at most 512 calls": the most ticks that there can be.
    private static void promise24AsFarAsItGoes() {
        IdleDispatcher x = Start.with(1, 0);
        for (int i = 0; i < 500; i++) {
            x.tick(500);
        }
        check.due("now()", x.now(), 250000);
        x.submit(0, 1);
        check.due("waitOf(0)", x.waitOf(0), 0);
        check.due("tick(1)", x.tick(1), 1);
    }
}
