import java.util.List;
import java.util.function.Supplier;

/**
 * "A call that throws an exception changes nothing.": each refused call is made on one of two
 * equal objects; from then on both answer the same, and both have the same saved states.
 */
public final class RefusalsTest {
    private static final String ARGUMENT = "throws.IllegalArgumentException";
    private static final String STATE = "throws.IllegalStateException";
    private static final String INDEX = "throws.IndexOutOfBoundsException";
    private static final int LEAST = Integer.MIN_VALUE;
    private static final int MOST = Integer.MAX_VALUE;

    private static final Check check = new Check();

    public static void main(String[] args) {
        Tests.runAll(RefusalsTest.class, 2, 26, check);
    }

    // ---- the states in which calls are refused

    /** Two servers, a dispatcher of each of two policies, jobs in service and waiting. */
    private static IdleDispatcher busy() {
        IdleDispatcher x = Start.with(2, 0, 1);
        Start.submitTimes(x, 1, 4, 4);
        x.tick(1);
        return x;
    }

    /** Eight servers and four dispatchers in join mode 0, idle servers and busy ones, one down. */
    private static IdleDispatcher full() {
        IdleDispatcher x = Start.with(8, 4, 1, 3, 2);
        x.setJoinMode(0);
        Start.submitTimes(x, 1, 3, 5);
        Start.submitTimes(x, 0, 2, 3);
        x.tick(3);
        x.setUp(6, false);
        return x;
    }

    /** Servers that are all down, one of them busy. */
    private static IdleDispatcher allDown() {
        IdleDispatcher x = Start.with(3, 0, 1, 3, 4);
        x.submit(1, 7);
        for (int s = 0; s < 3; s++) {
            x.setUp(s, false);
        }
        return x;
    }

    private static IdleDispatcher withoutServers() {
        return Start.with(0, 0, 1, 2, 3);
    }

    private static IdleDispatcher twoHundredJobs() {
        IdleDispatcher x = Start.with(4, 1, 3, 4, 2);
        Start.submitTimes(x, 0, 2, 200);
        x.tick(5);
        return x;
    }

    private static IdleDispatcher withOneSavedState() {
        IdleDispatcher x = busy();
        x.undo();
        x.undo();
        return x;
    }

    private static final List<Supplier<IdleDispatcher>> ALL = List.of(
        IdleDispatcher::new, RefusalsTest::busy, RefusalsTest::full, RefusalsTest::allDown,
        RefusalsTest::withoutServers, RefusalsTest::twoHundredJobs, RefusalsTest::withOneSavedState);

    // ---- what is asked of a refused call

    private static void refused(Supplier<IdleDispatcher> start, String name, int a, int b, String due) {
        IdleDispatcher x = start.get();
        IdleDispatcher other = start.get();
        String call = name + "(" + a + ", " + b + ")";
        check.due(call, Check.answer(() -> Call.on(x, name, a, b)), due);
        check.due("readings after " + call, Readings.of(x), Readings.of(other));
        for (String later : new String[] {"submit", "tick", "undo", "undo", "undo", "undo"}) {
            String answer = Check.answer(() -> Call.on(x, later, 0, 9));
            check.due(later + " after " + call, answer, Check.answer(() -> Call.on(other, later, 0, 9)));
            check.due("digest() then", x.digest(), other.digest());
        }
    }

    private static void refusedEverywhere(String name, int a, int b, String due) {
        for (Supplier<IdleDispatcher> start : ALL) {
            refused(start, name, a, b, due);
        }
    }

    // ---- the promises

    private static void promise2AddServer() {
        refused(RefusalsTest::full, "addServer", 0, 0, STATE);
    }

    private static void promise3AddDispatcher() {
        for (int wrong : new int[] {LEAST, -1, 5, MOST}) {
            refusedEverywhere("addDispatcher", wrong, 0, ARGUMENT);
        }
        for (int policy = 0; policy <= 4; policy++) {
            refused(RefusalsTest::full, "addDispatcher", policy, 0, STATE);
        }
    }

    private static void promise4SetPolicy() {
        for (int wrong : new int[] {LEAST, -1, 4, MOST}) {
            refusedEverywhere("setPolicy", wrong, 0, ARGUMENT);
        }
        for (int wrong : new int[] {LEAST, -1, 5, MOST}) {
            refusedEverywhere("setPolicy", 0, wrong, ARGUMENT);
        }
        refused(RefusalsTest::busy, "setPolicy", 2, 0, ARGUMENT);
        refused(IdleDispatcher::new, "setPolicy", 0, 0, ARGUMENT);
    }

    private static void promise5SetJoinMode() {
        for (int wrong : new int[] {LEAST, -1, 3, MOST}) {
            refusedEverywhere("setJoinMode", wrong, 0, ARGUMENT);
        }
    }

    private static void promise6SetReportPeriod() {
        for (int wrong : new int[] {LEAST, -1, 0, 101, MOST}) {
            refusedEverywhere("setReportPeriod", wrong, 0, ARGUMENT);
        }
    }

    private static void promise7SetRandom() {
        for (int wrong : new int[] {LEAST, -1, 1000000, MOST}) {
            refusedEverywhere("setRandom", wrong, 0, ARGUMENT);
        }
    }

    private static void promise8SetUp() {
        for (int wrong : new int[] {LEAST, -1, 8, MOST}) {
            refusedEverywhere("setUp", wrong, 0, ARGUMENT);
            refusedEverywhere("setUp", wrong, 1, ARGUMENT);
        }
        refused(RefusalsTest::busy, "setUp", 2, 0, ARGUMENT);
        refused(RefusalsTest::withoutServers, "setUp", 0, 1, ARGUMENT);
    }

    private static void promise9Submit() {
        for (int wrong : new int[] {LEAST, -1, 4, MOST}) {
            refusedEverywhere("submit", wrong, 1, ARGUMENT);
        }
        for (int wrong : new int[] {LEAST, -1, 0, 21, MOST}) {
            refusedEverywhere("submit", 0, wrong, ARGUMENT);
        }
        for (int d = 0; d < 4; d++) {
            refused(RefusalsTest::allDown, "submit", d, 1, STATE);
            refused(RefusalsTest::withoutServers, "submit", d, 20, STATE);
            refused(RefusalsTest::twoHundredJobs, "submit", d, 1, STATE);
        }
        refused(RefusalsTest::busy, "submit", 2, 1, ARGUMENT);
    }

    private static void promise10Tick() {
        for (int wrong : new int[] {LEAST, -1, 501, MOST}) {
            refusedEverywhere("tick", wrong, 0, ARGUMENT);
        }
    }

    private static void promise11Length() {
        refusedServers("length");
    }

    private static void promise12Work() {
        refusedServers("work");
    }

    private static void promise13RegisteredAt() {
        refusedServers("registeredAt");
    }

    private static void refusedServers(String name) {
        for (int wrong : new int[] {LEAST, -1, 8, MOST}) {
            refusedEverywhere(name, wrong, 0, ARGUMENT);
        }
        refused(RefusalsTest::busy, name, 2, 0, ARGUMENT);
        refused(RefusalsTest::withoutServers, name, 0, 0, ARGUMENT);
    }

    private static void promise14IdleCount() {
        for (int wrong : new int[] {LEAST, -1, 4, MOST}) {
            refusedEverywhere("idleCount", wrong, 0, ARGUMENT);
        }
        refused(RefusalsTest::busy, "idleCount", 2, 0, ARGUMENT);
    }

    private static void promise15IdleAt() {
        for (int wrong : new int[] {LEAST, -1, 4, MOST}) {
            refusedEverywhere("idleAt", wrong, 0, ARGUMENT);
            refusedEverywhere("idleAt", wrong, -1, ARGUMENT);
        }
        for (int wrong : new int[] {LEAST, -1, 0, MOST}) {
            refused(RefusalsTest::busy, "idleAt", 0, wrong, INDEX);
        }
        refused(RefusalsTest::full, "idleAt", 3, 8, INDEX);
    }

    private static void promise16KnownLength() {
        for (int wrong : new int[] {LEAST, -1, 4, MOST}) {
            refusedEverywhere("knownLength", wrong, 0, ARGUMENT);
        }
        for (int wrong : new int[] {LEAST, -1, 8, MOST}) {
            refusedEverywhere("knownLength", 0, wrong, ARGUMENT);
        }
        refused(RefusalsTest::busy, "knownLength", 0, 2, ARGUMENT);
    }

    private static void promise17ExpectedLength() {
        for (int wrong : new int[] {LEAST, -1, 4, MOST}) {
            refusedEverywhere("expectedLength", wrong, 0, ARGUMENT);
        }
        for (int wrong : new int[] {LEAST, -1, 2, MOST}) {
            refusedEverywhere("expectedLength", 0, wrong, ARGUMENT);
        }
        for (int d = 0; d < 4; d++) {
            refused(RefusalsTest::allDown, "expectedLength", d, 0, STATE);
            refused(RefusalsTest::withoutServers, "expectedLength", d, 1, STATE);
        }
    }

    // Promises 18, 19 and 22 to 24 refuse nothing, in no state.
    private static void refusesNothing(String name) {
        for (Supplier<IdleDispatcher> start : ALL) {
            IdleDispatcher x = start.get();
            check.due(name, Check.answer(() -> Call.on(x, name, 0, 0)).startsWith("throws."), false);
            check.due("readings after " + name, Readings.of(x), Readings.of(start.get()));
        }
    }

    private static void promise18Submitted() {
        refusesNothing("submitted");
    }

    private static void promise19Finished() {
        refusesNothing("finished");
    }

    private static void promise20ServerOf() {
        refusedJobs("serverOf");
    }

    private static void promise21WaitOf() {
        refusedJobs("waitOf");
    }

    private static void refusedJobs(String name) {
        for (int wrong : new int[] {LEAST, -1, 200, MOST}) {
            refusedEverywhere(name, wrong, 0, INDEX);
        }
        refused(RefusalsTest::busy, name, 4, 0, INDEX);
        refused(RefusalsTest::withoutServers, name, 0, 0, INDEX);
    }

    private static void promise22MeanWait() {
        refusesNothing("meanWait");
    }

    private static void promise23Missed() {
        refusesNothing("missed");
    }

    private static void promise24Now() {
        refusesNothing("now");
    }

    private static void promise25Undo() {
        refused(IdleDispatcher::new, "undo", 0, 0, STATE);
        refused(RefusalsTest::busyWithoutSavedStates, "undo", 0, 0, STATE);
    }

    private static IdleDispatcher busyWithoutSavedStates() {
        IdleDispatcher x = busy();
        for (int i = 0; i < 3; i++) {
            x.undo();
        }
        return x;
    }

    private static void promise26Digest() {
        refusesNothing("digest");
    }
}
