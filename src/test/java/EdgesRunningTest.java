/** Promises 9 and 10 at their edges: a test for each sentence of the document that names one. */
public final class EdgesRunningTest {
    private static final int NONE = IdleDispatcher.NONE;
    private static final int[] WRONG_EVERYWHERE = {Integer.MIN_VALUE, -1, Integer.MAX_VALUE};

    private static final Check check = new Check();

    public static void main(String[] args) {
        Tests.runAll(EdgesRunningTest.class, 9, 10, check);
    }

    // ---- 9: submit, and what it refuses

    // "A job has a size, 1 to 20."
    private static void promise9SizesFrom1To20() {
        IdleDispatcher x = Start.with(1, 0);
        check.due("submit(0, 1)", x.submit(0, 1), 0);
        check.due("work(0)", x.work(0), 1);
        check.due("submit(0, 20)", x.submit(0, 20), 0);
        check.due("work(0)", x.work(0), 21);
    }

    private static void promise9OtherSizesAreRefused() {
        IdleDispatcher x = Start.with(1, 0);
        check.illegalArgument("submit(0, 0)", () -> x.submit(0, 0));
        check.illegalArgument("submit(0, 21)", () -> x.submit(0, 21));
        for (int wrong : WRONG_EVERYWHERE) {
            check.illegalArgument("submit(0, " + wrong + ")", () -> x.submit(0, wrong));
        }
        check.due("submitted()", x.submitted(), 0);
        check.due("length(0)", x.length(0), 0);
        check.due("registeredAt(0)", x.registeredAt(0), 0);
    }

    private static void promise9NumbersOfDispatchers() {
        IdleDispatcher x = new IdleDispatcher();
        x.addServer();
        for (int count = 0; count <= 4; count++) {
            int next = count;
            check.illegalArgument("submit(" + count + ", 1)", () -> x.submit(next, 1));
            if (count < 4) {
                x.addDispatcher(count);
                check.due("submit(" + count + ", 1) then", x.submit(count, 1), 0);
            }
        }
        for (int wrong : WRONG_EVERYWHERE) {
            check.illegalArgument("submit(" + wrong + ", 1)", () -> x.submit(wrong, 1));
        }
        check.due("submitted()", x.submitted(), 4);
    }

    // "Throws IllegalStateException if no server is up"
    private static void promise9NoServerAtAll() {
        for (int policy = 0; policy <= 4; policy++) {
            IdleDispatcher x = Start.with(0, policy);
            check.illegalState("policy " + policy, () -> x.submit(0, 1));
            x.addServer();
            check.due("policy " + policy + " then", x.submit(0, 1), 0);
        }
    }

    private static void promise9NoServerIsUp() {
        for (int policy = 0; policy <= 4; policy++) {
            IdleDispatcher x = Start.with(2, policy);
            x.setUp(0, false);
            check.due("policy " + policy + ", one is up", x.submit(0, 5), 1);
            x.setUp(1, false);
            check.illegalState("policy " + policy + ", none is up", () -> x.submit(0, 5));
            check.due("submitted()", x.submitted(), 1);
            x.setUp(0, true);
            check.due("policy " + policy + ", one is up again", x.submit(0, 5), 0);
        }
    }

    // "Jobs are numbered from 0 in the order in which they were submitted, at most 200."
    private static void promise9TwoHundredJobs() {
        IdleDispatcher x = Start.with(1, 0);
        Start.submitTimes(x, 0, 1, 199);
        check.due("200th job", x.submit(0, 1), 0);
        check.due("submitted()", x.submitted(), 200);
        check.due("serverOf(199)", x.serverOf(199), 0);
    }

    private static void promise9The201stJobIsRefused() {
        for (int policy = 0; policy <= 4; policy++) {
            IdleDispatcher x = Start.with(2, policy);
            Start.submitTimes(x, 0, 1, 200);
            check.illegalState("201st job, policy " + policy, () -> x.submit(0, 1));
            check.due("submitted()", x.submitted(), 200);
            check.due("length(0) and length(1)", x.length(0) + x.length(1), 200);
            check.outOfBounds("serverOf(200)", () -> x.serverOf(200));
        }
    }

    private static void promise9FinishedJobsCountAmongThe200() {
        IdleDispatcher x = Start.with(1, 0);
        Start.submitTimes(x, 0, 1, 200);
        check.due("tick(200)", x.tick(200), 200);
        check.illegalState("201st job", () -> x.submit(0, 1));
    }

    private static void promise9UndoneJobsDoNotCountAmongThe200() {
        IdleDispatcher x = Start.with(1, 0);
        Start.submitTimes(x, 0, 1, 200);
        x.undo();
        check.due("200th job once more", x.submit(0, 1), 0);
        check.illegalState("201st job", () -> x.submit(0, 1));
    }

    // "If several exceptions apply, the one that is listed first is thrown."
    private static void promise9WrongArgumentsComeBeforeNoServer() {
        IdleDispatcher x = Start.with(1, 0);
        x.setUp(0, false);
        check.illegalArgument("submit(1, 1)", () -> x.submit(1, 1));
        check.illegalArgument("submit(0, 0)", () -> x.submit(0, 0));
        check.illegalArgument("submit(0, 21)", () -> x.submit(0, 21));
        check.illegalState("submit(0, 20)", () -> x.submit(0, 20));
    }

    private static void promise9WrongArgumentsComeBeforeThe201stJob() {
        IdleDispatcher x = Start.with(1, 0);
        Start.submitTimes(x, 0, 1, 200);
        check.illegalArgument("submit(-1, 1)", () -> x.submit(-1, 1));
        check.illegalArgument("submit(1, 1)", () -> x.submit(1, 1));
        check.illegalArgument("submit(0, 21)", () -> x.submit(0, 21));
        x.setUp(0, false);
        check.illegalState("submit(0, 1), none is up either", () -> x.submit(0, 1));
    }

    // ---- 9: where the job comes

    // "it comes to the end of the queue of the server that is taken"
    private static void promise9ComesToTheEndOfTheQueue() {
        IdleDispatcher x = Start.with(1, 0);
        x.submit(0, 1);
        x.submit(0, 5);
        x.submit(0, 2);
        x.tick(1);
        check.due("job 1 is next", x.waitOf(1), 1);
        check.due("job 2 waits", x.waitOf(2), NONE);
        x.tick(5);
        check.due("job 2 is last", x.waitOf(2), 6);
    }

    // "A server leaves its idle list when it gets a job from any dispatcher"
    private static void promise9LeavesTheListWithEachPolicy() {
        for (int policy = 0; policy <= 4; policy++) {
            for (int own = 0; own <= 1; own++) {
                IdleDispatcher x = Start.with(1, own == 0 ? 0 : policy, own == 0 ? policy : 0);
                check.due("before", Start.idleList(x, 0), "0");
                x.submit(own == 0 ? 1 : 0, 3);
                check.due("policy " + policy + " registeredAt(0)", x.registeredAt(0), NONE);
                check.due("policy " + policy + " idleCount(0)", x.idleCount(0), 0);
            }
        }
    }

    private static void promise9LeavesTheMiddleOfTheList() {
        IdleDispatcher x = Start.with(5, 1);
        x.setUp(0, false);
        x.setUp(1, false);
        x.submit(0, 1);
        check.due("server 2 has left", Start.idleList(x, 0), "34");
        x.setUp(0, true);
        check.due("server 3 leaves", x.submit(0, 1), 3);
        check.due("the others stay in order", Start.idleList(x, 0), "40");
    }

    private static void promise9ABusyServerIsInNoListAndStaysSo() {
        IdleDispatcher x = Start.with(1, 3);
        Start.submitTimes(x, 0, 4, 3);
        check.due("length(0)", x.length(0), 3);
        check.due("registeredAt(0)", x.registeredAt(0), NONE);
        check.due("idleCount(0)", x.idleCount(0), 0);
    }

    // ---- 9: policy 0, "the candidate with the index draw(n)"

    private static void promise9RandomAmongTheServersThatAreUp() {
        IdleDispatcher x = Start.with(8, 0);
        x.setUp(0, false);
        x.setUp(3, false);
        x.setUp(7, false);
        int[] up = {1, 2, 4, 5, 6};
        Draws d = new Draws(1);
        for (int i = 0; i < 30; i++) {
            check.due("job " + i, x.submit(0, 1), up[d.next(5)]);
        }
    }

    private static void promise9RandomDrawsForASingleServerToo() {
        IdleDispatcher x = Start.with(1, 0);
        Start.submitTimes(x, 0, 1, 3);
        x.addServer();
        check.due("draws", Draws.made(x, 1, 0, 0, 1), 3);
    }

    private static void promise9RandomPaysNoHeedToLengths() {
        IdleDispatcher x = Start.with(2, 0);
        x.setRandom(Draws.stateBefore(2, 1, 1, 1, 1));
        check.due("1 each time", Start.taken(x, 0, 9, 4), "1111");
    }

    // ---- 9: policy 1, "the first candidate is taken whose number is at least the pointer, or, if
    // there is none, the first candidate; the pointer then becomes the number of the taken server
    // plus 1"

    private static void promise9InTurnTheServerAtThePointer() {
        IdleDispatcher x = Start.with(3, 1);
        check.due("0, 1 and 2", Start.taken(x, 0, 1, 3), "012");
    }

    private static void promise9InTurnTheNextBehindThePointer() {
        IdleDispatcher x = Start.with(5, 1);
        x.submit(0, 1);
        x.setUp(1, false);
        x.setUp(2, false);
        check.due("1 and 2 are down", x.submit(0, 1), 3);
        x.setUp(1, true);
        x.setUp(2, true);
        check.due("the pointer is behind 3", x.submit(0, 1), 4);
    }

    private static void promise9InTurnNoneBehindThePointer() {
        IdleDispatcher x = Start.with(4, 1);
        Start.submitTimes(x, 0, 1, 2);
        x.setUp(2, false);
        x.setUp(3, false);
        check.due("2 and 3 are down", x.submit(0, 1), 0);
        x.setUp(2, true);
        check.due("the pointer is behind 0", x.submit(0, 1), 1);
    }

    private static void promise9InTurnTheFirstCandidateNeedNotBeServer0() {
        IdleDispatcher x = Start.with(4, 1);
        x.setUp(0, false);
        x.setUp(1, false);
        check.due("without 0 and 1", Start.taken(x, 0, 1, 5), "23232");
    }

    private static void promise9InTurnWrapsAroundBehindServer7() {
        IdleDispatcher x = Start.with(8, 1);
        check.due("ten jobs", Start.taken(x, 0, 1, 10), "0123456701");
    }

    // The digest of the document shows the pointer.
    private static void promise9InTurnThePointerBehindServer7Is8() {
        IdleDispatcher x = Start.with(8, 1);
        for (int s = 0; s < 7; s++) {
            x.setUp(s, false);
        }
        x.submit(0, 1);
        check.due("digest()", x.digest(), StateTest.hash(0, 1, 2, 8,
            8, 0, 0, 0, -1, 0, 0, 0, -1, 0, 0, 0, -1, 0, 0, 0, -1,
            0, 0, 0, -1, 0, 0, 0, -1, 0, 0, 0, -1, 1, 1, 1, -1,
            1, 1, 8, 0, 0, 0, 0, 0, 0, 0, 0, 0, 1, 0, 0, 0, 3));
    }

    private static void promise9InTurnASingleServer() {
        IdleDispatcher x = Start.with(1, 1);
        check.due("three jobs", Start.taken(x, 0, 1, 3), "000");
        x.addServer();
        check.due("the pointer is at 1", x.submit(0, 1), 1);
    }

    private static void promise9InTurnEachDispatcherHasItsPointer() {
        IdleDispatcher x = Start.with(3, 1, 1, 1, 1);
        check.due("dispatcher 0", Start.taken(x, 0, 1, 2), "01");
        check.due("dispatcher 3", Start.taken(x, 3, 1, 1), "0");
        check.due("dispatcher 1", Start.taken(x, 1, 1, 4), "0120");
        check.due("dispatcher 0 again", Start.taken(x, 0, 1, 1), "2");
        check.due("dispatcher 3 again", Start.taken(x, 3, 1, 1), "1");
    }

    private static void promise9InTurnDrawsNothing() {
        IdleDispatcher x = Start.with(3, 1);
        Start.submitTimes(x, 0, 1, 5);
        check.due("draws", Draws.made(x, 1, 0, 0, 1, 2), 0);
    }

    // ---- 9: policy 2, "the one with the smaller length is taken, the first one if the lengths are
    // equal"

    private static void promise9TwoChoicesEqualLengthsTheFirstDrawn() {
        IdleDispatcher x = Start.with(4, 2);
        x.setRandom(Draws.stateBefore(4, 3, 0));
        check.due("3 and 0, both empty", x.submit(0, 9), 3);
        x.setRandom(Draws.stateBefore(4, 0, 1));
        check.due("0 and 1, both empty", x.submit(0, 9), 0);
        x.setRandom(Draws.stateBefore(4, 3, 0));
        check.due("3 and 0, one job each", x.submit(0, 9), 3);
    }

    private static void promise9TwoChoicesTheSecondIsShorter() {
        IdleDispatcher x = Start.with(4, 2, 1);
        x.submit(1, 9);
        x.setRandom(Draws.stateBefore(4, 0, 3));
        check.due("0 with one job and 3 with none", x.submit(0, 9), 3);
    }

    private static void promise9TwoChoicesTheSecondIsLonger() {
        IdleDispatcher x = Start.with(4, 2, 1);
        x.submit(1, 9);
        x.setRandom(Draws.stateBefore(4, 3, 0));
        check.due("3 with none and 0 with one job", x.submit(0, 9), 3);
    }

    // "(they can be the same)"
    private static void promise9TwoChoicesTheSameTwice() {
        IdleDispatcher x = Start.with(4, 2, 1);
        Start.submitTimes(x, 1, 9, 3);
        x.setRandom(Draws.stateBefore(4, 2, 2));
        check.due("2 and 2, though 3 is empty", x.submit(0, 9), 2);
        check.due("length(2)", x.length(2), 2);
    }

    private static void promise9TwoChoicesCountJobsNotWork() {
        IdleDispatcher x = Start.with(2, 2, 1);
        x.submit(1, 1);
        x.submit(1, 20);
        x.submit(1, 1);
        x.setRandom(Draws.stateBefore(2, 0, 1));
        check.due("0 with 2 jobs and work 2, 1 with 1 job and work 20", x.submit(0, 1), 1);
    }

    private static void promise9TwoChoicesAlwaysDrawTwice() {
        IdleDispatcher x = Start.with(1, 2);
        x.submit(0, 1);
        x.addServer();
        check.due("draws with a single server", Draws.made(x, 1, 0, 0, 1), 2);
        IdleDispatcher y = Start.with(2, 2);
        y.submit(0, 1);
        check.due("draws with two servers", Draws.made(y, 1, 0, 0, 1), 2);
    }

    private static void promise9TwoChoicesAmongTheServersThatAreUp() {
        IdleDispatcher x = Start.with(4, 2);
        x.setUp(0, false);
        x.setUp(2, false);
        x.setRandom(Draws.stateBefore(2, 1, 0));
        check.due("3 and 1", x.submit(0, 9), 3);
        x.setRandom(Draws.stateBefore(2, 1, 0));
        check.due("3 with one job and 1", x.submit(0, 9), 1);
    }

    // ---- 9: policy 3, "if the idle list of the dispatcher is not empty, its first server is taken
    // out of the list and taken; otherwise a candidate is taken as in policy 0"

    private static void promise9IdleQueueTakesTheFirstOfTheList() {
        IdleDispatcher x = Start.with(3, 3);
        x.setUp(0, false);
        x.setUp(0, true);
        check.due("list", Start.idleList(x, 0), "120");
        check.due("three jobs", Start.taken(x, 0, 9, 3), "120");
        check.due("the list is empty", x.idleCount(0), 0);
    }

    private static void promise9IdleQueueDrawsNothingWhileTheListHasOne() {
        IdleDispatcher x = Start.with(2, 3);
        Start.submitTimes(x, 0, 9, 2);
        check.due("draws", Draws.made(x, 1, 0, 0, 1), 0);
    }

    private static void promise9IdleQueueEmptyListIsAsRandom() {
        IdleDispatcher x = Start.with(3, 3);
        Start.submitTimes(x, 0, 9, 3);
        int from = Draws.stateBefore(3, 2, 2, 0);
        x.setRandom(from);
        check.due("three jobs", Start.taken(x, 0, 9, 3), "220");
        check.due("draws", Draws.made(x, from, 0, 0, 1, 2), 3);
    }

    private static void promise9IdleQueueKnowsItsOwnListOnly() {
        IdleDispatcher x = Start.with(4, 3, 3);
        check.due("list of 0", Start.idleList(x, 0), "02");
        check.due("list of 1", Start.idleList(x, 1), "13");
        Start.submitTimes(x, 0, 9, 2);
        x.setRandom(Draws.stateBefore(4, 2, 3));
        check.due("busy, while 1 and 3 are idle", x.submit(0, 9), 2);
        check.due("list of 1 stays", Start.idleList(x, 1), "13");
        check.due("out of the list of 1", x.submit(0, 9), 3);
        check.due("list of 1 then", Start.idleList(x, 1), "1");
    }

    private static void promise9IdleQueueDoesNotSeeAServerInNoList() {
        IdleDispatcher x = new IdleDispatcher();
        x.addServer();
        x.addServer();
        x.addDispatcher(3);
        x.setRandom(Draws.stateBefore(2, 1, 1));
        check.due("drawn", Start.taken(x, 0, 9, 2), "11");
    }

    private static void promise9IdleQueueDrawsAmongTheServersThatAreUp() {
        IdleDispatcher x = Start.with(3, 3);
        Start.submitTimes(x, 0, 9, 3);
        x.setUp(0, false);
        x.setRandom(Draws.stateBefore(2, 0, 1));
        check.due("1 and 2", Start.taken(x, 0, 9, 2), "12");
    }

    // ---- 9: policy 4, "the candidate with the smallest length in the table of the dispatcher is
    // taken, the lowest number of equal ones; then the dispatcher increases this length in its table
    // by 1"

    private static void promise9StaleReportsTheLowestOfEqualOnes() {
        IdleDispatcher x = Start.with(8, 4);
        check.due("nine jobs", Start.taken(x, 0, 9, 9), "012345670");
    }

    private static void promise9StaleReportsTheLowestOfEqualOnesThatAreUp() {
        IdleDispatcher x = Start.with(4, 4);
        x.setUp(0, false);
        x.setUp(2, false);
        check.due("three jobs", Start.taken(x, 0, 9, 3), "131");
    }

    private static void promise9StaleReportsTheSmallestComesLast() {
        IdleDispatcher x = Start.with(3, 4);
        Start.submitTimes(x, 0, 9, 2);
        check.due("the table is 1, 1, 0", x.submit(0, 9), 2);
    }

    private static void promise9StaleReportsIncreaseByOne() {
        IdleDispatcher x = Start.with(1, 4);
        for (int known = 1; known <= 5; known++) {
            x.submit(0, 20);
            check.due("knownLength(0, 0)", x.knownLength(0, 0), known);
        }
    }

    private static void promise9StaleReportsIncreaseTheOwnTableOnly() {
        IdleDispatcher x = Start.with(2, 4, 4, 4);
        x.submit(1, 9);
        check.due("knownLength(0, 0)", x.knownLength(0, 0), 0);
        check.due("knownLength(1, 0)", x.knownLength(1, 0), 1);
        check.due("knownLength(1, 1)", x.knownLength(1, 1), 0);
        check.due("knownLength(2, 0)", x.knownLength(2, 0), 0);
    }

    private static void promise9StaleReportsPayNoHeedToTheTrueLengths() {
        IdleDispatcher x = Start.with(2, 4, 1);
        x.setUp(1, false);
        Start.submitTimes(x, 1, 9, 3);
        x.setUp(1, true);
        check.due("0 has three jobs, but its entry is 0", x.submit(0, 9), 0);
        check.due("then 1", x.submit(0, 9), 1);
    }

    private static void promise9StaleReportsForgetNothingWhenJobsAreFinished() {
        IdleDispatcher x = Start.with(2, 4);
        Start.submitTimes(x, 0, 1, 3);
        x.tick(7);
        check.due("all finished: length(0)", x.length(0), 0);
        check.due("knownLength(0, 0)", x.knownLength(0, 0), 2);
        check.due("1 looks shorter", x.submit(0, 9), 1);
    }

    private static void promise9StaleReportsDrawNothing() {
        IdleDispatcher x = Start.with(3, 4);
        Start.submitTimes(x, 0, 1, 5);
        check.due("draws", Draws.made(x, 1, 0, 0, 1, 2), 0);
    }

    // ---- 10: tick

    private static void promise10TicksFrom0To500() {
        IdleDispatcher x = new IdleDispatcher();
        check.due("tick(0)", x.tick(0), 0);
        check.due("now()", x.now(), 0);
        check.due("tick(1)", x.tick(1), 0);
        check.due("now()", x.now(), 1);
        check.due("tick(500)", x.tick(500), 0);
        check.due("now()", x.now(), 501);
    }

    private static void promise10OtherTicksAreRefused() {
        IdleDispatcher x = Start.with(1, 0);
        x.submit(0, 3);
        check.illegalArgument("tick(501)", () -> x.tick(501));
        for (int wrong : WRONG_EVERYWHERE) {
            check.illegalArgument("tick(" + wrong + ")", () -> x.tick(wrong));
        }
        check.due("now()", x.now(), 0);
        check.due("work(0)", x.work(0), 3);
    }

    private static void promise10Tick0DoesNothing() {
        IdleDispatcher x = Start.with(2, 0);
        x.tick(8);
        x.submit(0, 1);
        x.submit(0, 1);
        String before = Readings.of(x);
        check.due("tick(0)", x.tick(0), 0);
        check.due("readings", Readings.of(x), before);
    }

    private static void promise10WithoutServers() {
        IdleDispatcher x = Start.with(0, 0, 4);
        check.due("tick(500)", x.tick(500), 0);
        check.due("now()", x.now(), 500);
    }

    // "does one unit of work on its first job; if nothing is left of it, the job is finished"
    private static void promise10ASize1JobTakesOneTick() {
        IdleDispatcher x = Start.with(1, 0);
        x.submit(0, 1);
        check.due("tick(1)", x.tick(1), 1);
        check.due("length(0)", x.length(0), 0);
        check.due("work(0)", x.work(0), 0);
    }

    private static void promise10ASize20JobTakesTwentyTicks() {
        IdleDispatcher x = Start.with(1, 0);
        x.submit(0, 20);
        check.due("tick(19)", x.tick(19), 0);
        check.due("work(0)", x.work(0), 1);
        check.due("length(0)", x.length(0), 1);
        check.due("tick(1)", x.tick(1), 1);
        check.due("work(0)", x.work(0), 0);
    }

    private static void promise10OnlyTheFirstJobIsWorkedOn() {
        IdleDispatcher x = Start.with(1, 0);
        Start.submitTimes(x, 0, 1, 3);
        check.due("tick(1)", x.tick(1), 1);
        check.due("work(0)", x.work(0), 2);
        check.due("tick(2)", x.tick(2), 2);
    }

    private static void promise10EachServerWorks() {
        IdleDispatcher x = Start.with(8, 1);
        Start.submitTimes(x, 0, 3, 8);
        check.due("tick(2)", x.tick(2), 0);
        check.due("tick(1)", x.tick(1), 8);
        check.due("idle list", Start.idleList(x, 0), "01234567");
    }

    private static void promise10CountsTheJobsOfThisCallOnly() {
        IdleDispatcher x = Start.with(1, 0);
        Start.submitTimes(x, 0, 1, 5);
        check.due("tick(2)", x.tick(2), 2);
        check.due("tick(500)", x.tick(500), 3);
        check.due("tick(500) again", x.tick(500), 0);
    }

    private static void promise10TwoHundredJobsInOneCall() {
        IdleDispatcher x = Start.with(1, 0);
        Start.submitTimes(x, 0, 2, 200);
        check.due("tick(399)", x.tick(399), 199);
        check.due("tick(1)", x.tick(1), 1);
        check.due("finished()", x.finished(), 200);
    }

    // "if the queue is empty then and the server is up, the server registers"
    private static void promise10RegistersWhenTheLastJobIsFinished() {
        IdleDispatcher x = Start.with(1, 3);
        Start.submitTimes(x, 0, 1, 2);
        x.tick(1);
        check.due("one job is left", x.registeredAt(0), NONE);
        x.tick(1);
        check.due("none is left", x.registeredAt(0), 0);
    }

    private static void promise10AnIdleServerDoesNotRegisterAgain() {
        IdleDispatcher x = Start.with(2, 0, 0);
        x.setJoinMode(0);
        x.tick(100);
        check.due("list of 0", Start.idleList(x, 0), "0");
        check.due("list of 1", Start.idleList(x, 1), "1");
        check.due("draws", Draws.made(x, 1, 0, 0, 1), 0);
    }

    private static void promise10DownIsServedButDoesNotRegister() {
        IdleDispatcher x = Start.with(2, 1);
        Start.submitTimes(x, 0, 1, 2);
        x.setUp(0, false);
        x.setJoinMode(0);
        check.due("tick(1)", x.tick(1), 2);
        check.due("idle list", Start.idleList(x, 0), "1");
        x.setJoinMode(2);
        x.setUp(0, true);
        check.due("draws", Draws.made(x, 1, 0, 0, 1), 1);
    }

    // "in ascending order of their numbers"
    private static void promise10RegistersInAscendingOrder() {
        IdleDispatcher x = Start.with(4, 1);
        for (int s = 3; s > 0; s--) {
            x.setUp(s - 1, false);
        }
        x.submit(0, 3);
        x.setUp(0, true);
        x.setUp(1, true);
        x.setUp(2, true);
        Start.submitTimes(x, 0, 3, 3);
        check.due("all busy", x.idleCount(0), 0);
        x.tick(3);
        check.due("idle list", Start.idleList(x, 0), "0123");
    }

    private static void promise10DrawsInAscendingOrder() {
        IdleDispatcher x = Start.with(4, 1, 0, 0, 0);
        Start.submitTimes(x, 0, 1, 4);
        x.setJoinMode(0);
        x.setRandom(Draws.stateBefore(4, 3, 1, 0, 2));
        x.tick(1);
        check.due("registeredAt(0)", x.registeredAt(0), 3);
        check.due("registeredAt(1)", x.registeredAt(1), 1);
        check.due("registeredAt(2)", x.registeredAt(2), 0);
        check.due("registeredAt(3)", x.registeredAt(3), 2);
    }

    private static void promise10InMode1TheListsOfTheMomentCount() {
        IdleDispatcher x = Start.with(2, 1, 0);
        Start.submitTimes(x, 0, 1, 2);
        x.setJoinMode(1);
        x.setRandom(Draws.stateBefore(2, 0, 1, 0, 1));
        x.tick(1);
        check.due("0 and 1, both empty", x.registeredAt(0), 0);
        check.due("0 with server 0 and 1", x.registeredAt(1), 1);
    }

    // "At the end of the tick the reports are made, if they are due."
    private static void promise10ReportsTellTheLengthsAfterTheWork() {
        IdleDispatcher x = Start.with(2, 1, 4);
        Start.submitTimes(x, 0, 8, 3);
        x.tick(7);
        check.due("tick 7: knownLength(1, 0)", x.knownLength(1, 0), 0);
        x.tick(1);
        check.due("tick 8: knownLength(1, 0)", x.knownLength(1, 0), 1);
        check.due("tick 8: knownLength(1, 1)", x.knownLength(1, 1), 0);
    }

    // "the tables of all dispatchers are set to the lengths that the servers have then"
    private static void promise10ReportsGoToAllDispatchersWhateverTheirPolicies() {
        IdleDispatcher x = Start.with(8, 1, 2, 3, 4);
        Start.submitTimes(x, 0, 20, 9);
        x.tick(8);
        for (int d = 0; d < 4; d++) {
            for (int s = 0; s < 8; s++) {
                check.due("knownLength(" + d + ", " + s + ")", x.knownLength(d, s), s == 0 ? 2 : 1);
            }
        }
    }

    private static void promise10ReportsTellOfServersThatAreDown() {
        IdleDispatcher x = Start.with(2, 1);
        Start.submitTimes(x, 0, 20, 4);
        x.setUp(1, false);
        x.tick(8);
        check.due("knownLength(0, 1)", x.knownLength(0, 1), 2);
    }

    private static void promise10ReportsWipeOutWhatPolicy4HasCounted() {
        IdleDispatcher x = Start.with(2, 4);
        Start.submitTimes(x, 0, 1, 6);
        check.due("knownLength(0, 0)", x.knownLength(0, 0), 3);
        x.tick(8);
        check.due("knownLength(0, 0) after the report", x.knownLength(0, 0), 0);
        check.due("knownLength(0, 1) after the report", x.knownLength(0, 1), 0);
    }

    private static void promise10TheLastReportOfALongCallCounts() {
        IdleDispatcher x = Start.with(1, 0);
        Start.submitTimes(x, 0, 10, 5);
        x.tick(31);
        // The report of tick 24 told 3; one of tick 31 would tell 2.
        check.due("knownLength(0, 0)", x.knownLength(0, 0), 3);
        check.due("length(0)", x.length(0), 2);
    }

    private static void promise10OneCallIsAsManyTicksOneByOne() {
        IdleDispatcher x = Start.with(4, 0, 3, 1, 4);
        IdleDispatcher y = Start.with(4, 0, 3, 1, 4);
        for (IdleDispatcher z : new IdleDispatcher[] {x, y}) {
            z.setJoinMode(1);
            z.setReportPeriod(7);
            for (int i = 0; i < 12; i++) {
                z.submit(i % 4, 1 + i % 5);
            }
        }
        int finished = 0;
        for (int i = 0; i < 20; i++) {
            finished += y.tick(1);
        }
        check.due("tick(20)", x.tick(20), finished);
        check.due("readings", Readings.of(x), Readings.of(y));
    }
}
