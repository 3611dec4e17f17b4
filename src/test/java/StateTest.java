import java.util.concurrent.Callable;

/** Promises 25 and 26: undo and digest. */
public final class StateTest {
    private static final Check check = new Check();

    public static void main(String[] args) {
        promise25KeepsThreeStates();
        promise25EveryUndoableCallSaves();
        promise25ReadingSavesNothing();
        promise25BringsEverythingBack();
        promise25GoesOnAfterUndo();
        promise25ADetourLeavesNoTrace();
        promise26Digest();
        promise26DigestOfIdleListsAndTables();
        promise26CountsTheSavedStates();
        check.end();
    }

    static long hash(long... values) {
        long h = 2753;
        for (long v : values) {
            h = 31 * h + v;
        }
        return h;
    }

    private static void promise25KeepsThreeStates() {
        IdleDispatcher x = new IdleDispatcher();
        check.illegalState("nothing saved", x::undo);
        x.tick(1);
        x.tick(1);
        check.due("two saved", x.undo(), 1);
        check.due("now()", x.now(), 1);
        x.tick(2);
        x.tick(4);
        x.tick(8);
        check.due("now()", x.now(), 15);
        check.due("undo 8", x.undo(), 2);
        check.due("now()", x.now(), 7);
        check.due("undo 4", x.undo(), 1);
        check.due("now()", x.now(), 3);
        check.due("undo 2", x.undo(), 0);
        check.due("now()", x.now(), 1);
        check.illegalState("the oldest was dropped", x::undo);
        check.due("now() stays", x.now(), 1);
    }

    private static void promise25EveryUndoableCallSaves() {
        IdleDispatcher x = Start.with(1, 0);
        saves(x, "addServer()", x::addServer);
        saves(x, "addDispatcher(0)", () -> x.addDispatcher(0));
        saves(x, "setPolicy(0, 0)", () -> x.setPolicy(0, 0));
        saves(x, "setJoinMode(2)", () -> x.setJoinMode(2));
        saves(x, "setReportPeriod(8)", () -> x.setReportPeriod(8));
        saves(x, "setRandom(1)", () -> x.setRandom(1));
        saves(x, "setUp(0, true)", () -> x.setUp(0, true));
        saves(x, "submit(0, 1)", () -> x.submit(0, 1));
        saves(x, "tick(0)", () -> x.tick(0));
    }

    /** The call saves one state, whether it changes anything or not, and undo takes it away. */
    private static void saves(IdleDispatcher x, String call, Callable<?> body) {
        for (int i = 0; i < 3; i++) {
            x.tick(0);
        }
        for (int i = 0; i < 3; i++) {
            x.undo();
        }
        long before = x.digest();
        Check.answer(body);
        check.due("undo() after " + call, Check.answer(x::undo), "0");
        check.due("digest() after undo of " + call, x.digest(), before);
    }

    private static void promise25ReadingSavesNothing() {
        IdleDispatcher x = Start.with(1, 0);
        x.submit(0, 1);
        long before = x.digest();
        for (String name : new String[] {
            "length", "work", "registeredAt", "idleCount", "idleAt", "knownLength", "expectedLength",
            "submitted", "finished", "serverOf", "waitOf", "meanWait", "missed", "now", "digest"}) {
            Check.answer(() -> Call.on(x, name, 0, 0));
            check.due("digest() after " + name, x.digest(), before);
        }
    }

    private static void promise25BringsEverythingBack() {
        IdleDispatcher x = Start.with(2, 4, 1);
        x.submit(0, 3);
        x.submit(0, 2);
        x.submit(0, 2);
        x.tick(1);
        long before = x.digest();
        x.tick(20);
        x.setUp(1, false);
        x.submit(1, 5);
        check.due("waitOf(2) begun", x.waitOf(2), 3);
        x.undo();
        x.undo();
        x.undo();
        check.due("number of saved states is part of the digest", x.digest() == before, false);
        check.due("waitOf(2)", x.waitOf(2), -1);
        check.due("submitted()", x.submitted(), 3);
        check.due("finished()", x.finished(), 0);
        check.due("work(0)", x.work(0), 4);
        check.due("knownLength(0, 0)", x.knownLength(0, 0), 2);
        check.due("idleCount(0)", x.idleCount(0), 0);
        check.due("up", x.setUp(1, true), true);
        check.due("tick(1)", x.tick(1), 1);
        check.due("idle list", Start.idleList(x, 1), "1");
    }

    private static void promise25GoesOnAfterUndo() {
        IdleDispatcher x = Start.with(2, 0);
        String once = Start.taken(x, 0, 2, 3);
        x.undo();
        x.undo();
        x.undo();
        check.due("the random sequence goes back", Start.taken(x, 0, 2, 3), once);
        x.undo();
        x.addServer();
        x.undo();
        x.addServer();
        check.due("length of the server that came again", x.length(2), 0);
        check.due("idle list", x.registeredAt(2), 0);
    }

    /** One of two equal objects goes astray and comes back: from then on both answer the same. */
    private static void promise25ADetourLeavesNoTrace() {
        String[] detours = {
            "tick 30 0", "submit 0 7", "submit 1 3", "submit 2 1", "submit 3 9", "setUp 0 0", "setUp 3 1",
            "setPolicy 1 4", "setJoinMode 0 0", "setReportPeriod 2 0", "setRandom 77 0", "addServer 0 0"};
        for (String first : detours) {
            for (String second : detours) {
                IdleDispatcher straight = busy();
                IdleDispatcher astray = busy();
                perform(astray, first);
                perform(astray, second);
                perform(astray, "tick 3 0");
                for (int i = 0; i < 3; i++) {
                    astray.undo();
                }
                String where = " after " + first + " and " + second;
                check.due("answers" + where, Readings.withoutDigest(astray), Readings.withoutDigest(straight));
                for (String call : new String[] {"submit 0 2", "tick 9 0", "submit 3 4", "addServer 0 0", "tick 40 0"}) {
                    check.due(call + where, perform(astray, call), perform(straight, call));
                }
                check.due("answers later" + where, Readings.withoutDigest(astray), Readings.withoutDigest(straight));
                check.due("digest() later" + where, astray.digest(), straight.digest());
            }
        }
    }

    /** Queues of several jobs, one of them begun and one finished; server 3 is down, server 4 is idle. */
    private static IdleDispatcher busy() {
        IdleDispatcher x = Start.with(5, 0, 1, 4, 3);
        x.setUp(4, false);
        x.setReportPeriod(3);
        Start.submitTimes(x, 1, 2, 7);
        x.tick(3);
        Start.submitTimes(x, 2, 5, 3);
        x.setUp(3, false);
        x.setUp(4, true);
        return x;
    }

    private static String perform(IdleDispatcher x, String call) {
        String[] words = call.split(" ");
        int a = Integer.parseInt(words[1]);
        int b = Integer.parseInt(words[2]);
        return Check.answer(() -> Call.on(x, words[0], a, b));
    }

    private static void promise26Digest() {
        IdleDispatcher x = new IdleDispatcher();
        x.setReportPeriod(5);
        x.setJoinMode(2);
        x.addServer();
        x.addServer();
        check.due("two servers in no list", x.digest(),
            hash(0, 1, 2, 5, 2, 1, 0, 0, -1, 1, 0, 0, -1, 0, 0, 0, 0, 0, 3));
        x.addDispatcher(1);
        x.submit(0, 6);
        x.submit(0, 7);
        x.submit(0, 8);
        x.setUp(1, false);
        check.due("three jobs", x.digest(),
            hash(0, 1, 2, 5, 2, 1, 2, 14, -1, 0, 1, 7, -1, 1, 1, 1, 0, 0, 0, 3, 0, 0, 0, 3));
        x.tick(6);
        // Job 0 is finished in tick 6 and job 2 begins then; the report of tick 5 told 2 and 1.
        check.due("after 6 ticks", x.digest(),
            hash(6, 1, 2, 5, 2, 1, 1, 8, -1, 0, 1, 1, -1, 1, 1, 1, 0, 2, 1, 3, 1, 6, 0, 3));
    }

    private static void promise26DigestOfIdleListsAndTables() {
        IdleDispatcher x = Start.with(3, 4, 3);
        check.due("idle lists", x.digest(),
            hash(0, 1, 2, 8, 3, 1, 0, 0, 0, 1, 0, 0, 1, 1, 0, 0, 0,
                2, 4, 0, 2, 0, 2, 0, 0, 0, 3, 0, 1, 1, 0, 0, 0, 0, 0, 0, 0, 3));
        x.submit(0, 5);
        x.setPolicy(0, 1);
        x.submit(0, 4);
        // The pointer is at 1; server 0 has two jobs, the second one was sent past idle servers.
        check.due("a table and a missed job", x.digest(),
            hash(0, 1, 2, 8, 3, 1, 2, 9, -1, 1, 0, 0, 1, 1, 0, 0, 0,
                2, 1, 1, 1, 2, 1, 0, 0, 3, 0, 1, 1, 0, 0, 0, 2, 0, 0, 1, 3));
        x.setPolicy(0, 0);
        x.submit(0, 3);
        // One draw: the state is 1103527590, the draw 16838, modulo 3 the server 2.
        check.due("the state of the random sequence", x.digest(),
            hash(0, 1103527590, 2, 8, 3, 1, 2, 9, -1, 1, 0, 0, 1, 1, 1, 3, -1,
                2, 0, 1, 0, 1, 0, 0, 3, 0, 1, 1, 0, 0, 0, 3, 0, 0, 1, 3));
    }

    private static void promise26CountsTheSavedStates() {
        IdleDispatcher x = new IdleDispatcher();
        for (int calls = 0; calls < 6; calls++) {
            check.due("after " + calls + " calls", x.digest(),
                hash(0, 1, 0, 8, 0, 0, 0, 0, 0, 0, Math.min(calls, 3)));
            x.tick(0);
        }
        x.undo();
        check.due("after undo()", x.digest(), hash(0, 1, 0, 8, 0, 0, 0, 0, 0, 0, 2));
    }
}
