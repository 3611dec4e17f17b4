import java.math.BigInteger;
import java.util.ArrayList;
import java.util.List;

/** Promises 25 and 26 at their edges: a test for each sentence of the document that names one. */
public final class EdgesStateTest {
    private static final int NONE = IdleDispatcher.NONE;
    private static final BigInteger TWO_TO_64 = BigInteger.ONE.shiftLeft(64);

    private static final Check check = new Check();

    public static void main(String[] args) {
        Tests.runAll(EdgesStateTest.class, 25, 26, check);
    }

    // ---- 25: "Throws IllegalStateException if there is no saved state"

    private static void promise25ANewObjectHasNoSavedState() {
        IdleDispatcher x = new IdleDispatcher();
        check.illegalState("undo()", x::undo);
        check.illegalState("undo() again", x::undo);
        check.due("readings", Readings.of(x), Readings.of(new IdleDispatcher()));
    }

    private static void promise25OneSavedState() {
        IdleDispatcher x = new IdleDispatcher();
        x.addServer();
        check.due("undo()", x.undo(), 0);
        check.illegalState("undo() again", x::undo);
        check.due("readings", Readings.of(x), Readings.of(new IdleDispatcher()));
    }

    // "at most 3 states are saved, and the oldest is dropped first"
    private static void promise25ThreeSavedStates() {
        IdleDispatcher x = new IdleDispatcher();
        x.tick(1);
        x.tick(10);
        x.tick(100);
        check.due("undo()", x.undo(), 2);
        check.due("now()", x.now(), 11);
        check.due("undo()", x.undo(), 1);
        check.due("now()", x.now(), 1);
        check.due("undo()", x.undo(), 0);
        check.due("now()", x.now(), 0);
        check.illegalState("undo()", x::undo);
        check.due("now()", x.now(), 0);
    }

    private static void promise25TheFourthDropsTheOldest() {
        for (int calls = 4; calls <= 9; calls++) {
            IdleDispatcher x = new IdleDispatcher();
            for (int i = 0; i < calls; i++) {
                x.tick(1);
            }
            for (int left = 2; left >= 0; left--) {
                check.due("undo() after " + calls, x.undo(), left);
                check.due("now()", x.now(), calls - 3 + left);
            }
            check.illegalState("4th undo() after " + calls, x::undo);
            check.due("now()", x.now(), calls - 3);
        }
    }

    // "Restores the most recently saved state and removes it from the saved states."
    private static void promise25UndoIsNotUndoable() {
        IdleDispatcher x = new IdleDispatcher();
        x.tick(1);
        x.tick(10);
        check.due("undo()", x.undo(), 1);
        check.due("undo() goes on back", x.undo(), 0);
        check.due("now()", x.now(), 0);
    }

    private static void promise25NewStatesAreSavedOnTopOfTheOldOnes() {
        IdleDispatcher x = new IdleDispatcher();
        x.tick(1);
        x.tick(10);
        x.tick(100);
        x.undo();
        x.tick(200);
        check.due("now()", x.now(), 211);
        check.due("undo()", x.undo(), 2);
        check.due("now()", x.now(), 11);
        check.due("undo()", x.undo(), 1);
        check.due("now()", x.now(), 1);
        x.tick(300);
        x.tick(400);
        x.tick(500);
        check.due("undo()", x.undo(), 2);
        check.due("undo()", x.undo(), 1);
        check.due("undo()", x.undo(), 0);
        check.due("now()", x.now(), 1);
    }

    // "even if the call changes nothing"
    private static void promise25ACallThatChangesNothingSavesToo() {
        String[] calls = {
            "setPolicy 0 3", "setJoinMode 2 0", "setReportPeriod 8 0", "setRandom 1 0", "setUp 0 1", "setUp 1 0", "tick 0 0"};
        for (String call : calls) {
            IdleDispatcher x = Start.with(2, 3);
            x.setUp(1, false);
            forgetSavedStates(x);
            String before = Readings.withoutDigest(x);
            perform(x, call);
            check.due(call + " changes nothing", Readings.withoutDigest(x), before);
            check.due("undo() after " + call, Check.answer(x::undo), "0");
        }
    }

    /** Three calls that change nothing push the older states out, and are undone. */
    private static void forgetSavedStates(IdleDispatcher x) {
        for (int i = 0; i < 3; i++) {
            x.tick(0);
        }
        for (int i = 0; i < 3; i++) {
            x.undo();
        }
    }

    private static void promise25ACallThatChangesNothingDropsTheOldestToo() {
        IdleDispatcher x = new IdleDispatcher();
        x.tick(1);
        x.tick(10);
        x.tick(100);
        x.tick(0);
        for (int i = 0; i < 3; i++) {
            x.undo();
        }
        check.due("now()", x.now(), 1);
    }

    // "Each successful call of a method whose description says undoable": the nine, and no other.
    private static void promise25TheNineUndoableCalls() {
        String[] calls = {
            "addServer 0 0", "addDispatcher 1 0", "setPolicy 0 1", "setJoinMode 1 0", "setReportPeriod 3 0",
            "setRandom 9 0", "setUp 0 0", "submit 0 4", "tick 2 0"};
        for (String call : calls) {
            IdleDispatcher x = Start.with(2, 0);
            String before = Readings.of(x);
            check.due(call + " succeeds", perform(x, call).startsWith("throws."), false);
            check.due(call + " changes the state", Readings.of(x).equals(before), false);
            check.due("undo() after " + call, x.undo(), 2);
            x.tick(0);
            check.due("readings after undo of " + call, Readings.of(x), before);
        }
    }

    private static void promise25ReadingCallsSaveNothing() {
        IdleDispatcher x = Start.with(1, 0);
        x.submit(0, 1);
        x.undo();
        x.undo();
        Readings.of(x);
        check.due("undo()", x.undo(), 0);
    }

    private static void promise25RefusedCallsSaveNothing() {
        IdleDispatcher x = Start.with(8, 0, 1, 2, 3);
        x.undo();
        x.undo();
        check.illegalArgument("tick(501)", () -> x.tick(501));
        check.illegalArgument("submit(0, 0)", () -> x.submit(0, 0));
        check.illegalState("addDispatcher(0)", () -> x.addDispatcher(0));
        check.due("undo()", x.undo(), 0);
        check.illegalState("undo()", x::undo);
        check.illegalState("undo()", x::undo);
    }

    private static void promise25RefusedCallsDropNothing() {
        IdleDispatcher x = new IdleDispatcher();
        x.tick(1);
        x.tick(10);
        x.tick(100);
        for (int i = 0; i < 4; i++) {
            check.illegalArgument("tick(-1)", () -> x.tick(-1));
        }
        for (int i = 0; i < 3; i++) {
            x.undo();
        }
        check.due("now()", x.now(), 0);
    }

    // ---- 25: "The saved state contains everything."

    /** Dispatchers of policies 4, 1, 3, 2; servers 0 to 4, server 3 down, jobs in service and waiting. */
    private static IdleDispatcher busy() {
        IdleDispatcher x = Start.with(5, 4, 1, 3, 2);
        Start.submitTimes(x, 1, 3, 6);
        Start.submitTimes(x, 0, 2, 2);
        x.tick(2);
        x.setUp(3, false);
        return x;
    }

    /**
     * A state in which nothing is as in a new object: finished jobs, jobs that came late and wait
     * or have waited, a missed one, tables with reports and counts in them.
     */
    private static IdleDispatcher wellUsed() {
        IdleDispatcher x = busy();
        x.setReportPeriod(3);
        x.setRandom(4711);
        x.submit(3, 6);
        x.tick(3);
        Start.submitTimes(x, 1, 4, 3);
        x.submit(2, 1);
        x.setUp(3, true);
        x.tick(2);
        Start.submitTimes(x, 1, 5, 3);
        Start.submitTimes(x, 0, 5, 2);
        return x;
    }

    private static void promise25TheStateThatComesBackIsAUsedOne() {
        IdleDispatcher x = wellUsed();
        check.due("finished()", x.finished() > 0, true);
        check.due("jobs that wait", x.submitted() - x.finished() > 5, true);
        check.due("meanWait()", x.meanWait() > 0.0, true);
        check.due("missed()", x.missed() > 0, true);
    }

    /** The calls, three at most, are made and undone: then all is, and goes on, as if they had not been. */
    private static void comesBack(String... calls) {
        IdleDispatcher x = wellUsed();
        IdleDispatcher straight = wellUsed();
        for (String call : calls) {
            check.due(call + " succeeds", perform(x, call).startsWith("throws."), false);
        }
        check.due("the calls change something", x.digest() == straight.digest(), false);
        for (int i = 0; i < calls.length; i++) {
            x.undo();
        }
        String where = " after " + String.join(", ", calls);
        check.due("readings" + where, Readings.withoutDigest(x), Readings.withoutDigest(straight));
        for (String later : new String[] {
            "tick 1 0", "submit 0 2", "submit 1 3", "submit 2 4", "submit 3 5", "tick 4 0", "addServer 0 0", "tick 60 0"}) {
            check.due(later + where, perform(x, later), perform(straight, later));
        }
        check.due("readings later" + where, Readings.of(x), Readings.of(straight));
    }

    private static void promise25EverythingComesBackFromEachCall() {
        for (String call : new String[] {
            "addServer 0 0", "setPolicy 1 2", "setJoinMode 1 0", "setReportPeriod 2 0", "setRandom 9 0", "setUp 0 0",
            "submit 0 4", "submit 1 4", "submit 2 4", "submit 3 4", "tick 1 0", "tick 50 0"}) {
            comesBack(call);
            comesBack("submit 1 7", call);
            comesBack(call, "submit 3 7", "tick 9 0");
        }
    }

    private static void promise25TheTimeComesBack() {
        IdleDispatcher x = busy();
        x.tick(1);
        x.undo();
        check.due("now()", x.now(), 2);
    }

    private static void promise25TheRandomStateComesBack() {
        IdleDispatcher x = Start.with(3, 0);
        Start.submitTimes(x, 0, 1, 3);
        for (int i = 0; i < 3; i++) {
            x.undo();
        }
        check.due("draws", Draws.made(x, 1, 0, 0, 1, 2), 0);
    }

    private static void promise25JoinModePeriodAndPolicyComeBack() {
        IdleDispatcher x = busy();
        x.setJoinMode(1);
        x.setReportPeriod(77);
        x.setPolicy(2, 0);
        for (int i = 0; i < 3; i++) {
            x.undo();
        }
        check.due("join mode", x.setJoinMode(0), 2);
        check.due("report period", x.setReportPeriod(1), 8);
        check.due("policy", x.setPolicy(2, 1), 3);
    }

    private static void promise25UpAndDownComeBack() {
        IdleDispatcher x = busy();
        x.setUp(3, true);
        x.setUp(0, false);
        x.undo();
        x.undo();
        check.due("server 3", x.setUp(3, false), false);
        check.due("server 0", x.setUp(0, true), true);
        comesBack("setUp 3 1", "setUp 0 0");
    }

    private static void promise25AddedServersAndDispatchersGo() {
        IdleDispatcher x = Start.with(7, 0, 0, 0);
        x.addServer();
        x.addDispatcher(0);
        x.undo();
        x.undo();
        check.illegalArgument("length(7)", () -> x.length(7));
        check.illegalArgument("idleCount(3)", () -> x.idleCount(3));
        check.illegalArgument("knownLength(0, 7)", () -> x.knownLength(0, 7));
        check.due("idle list of 1", Start.idleList(x, 1), "14");
        comesBack("addServer 0 0", "submit 1 4", "tick 3 0");
    }

    private static void promise25TheIdleListsComeBackInOrder() {
        IdleDispatcher x = Start.with(4, 3);
        x.setUp(0, false);
        x.setUp(0, true);
        check.due("idle list", Start.idleList(x, 0), "1230");
        x.submit(0, 1);
        x.setUp(3, false);
        x.tick(1);
        check.due("idle list then", Start.idleList(x, 0), "201");
        for (int i = 0; i < 3; i++) {
            x.undo();
        }
        check.due("idle list again", Start.idleList(x, 0), "1230");
        check.due("registeredAt(3)", x.registeredAt(3), 0);
    }

    private static void promise25ThePointerComesBack() {
        IdleDispatcher x = busy();
        check.due("from the pointer on", Start.taken(x, 1, 1, 3), "124");
        for (int i = 0; i < 3; i++) {
            x.undo();
        }
        check.due("once more", Start.taken(x, 1, 1, 3), "124");
    }

    private static void promise25TheTablesComeBack() {
        IdleDispatcher x = busy();
        check.due("knownLength(0, 1)", x.knownLength(0, 1), 1);
        check.due("knownLength(0, 2)", x.knownLength(0, 2), 0);
        x.submit(0, 5);
        x.tick(6);
        check.due("knownLength(0, 1) after the report", x.knownLength(0, 1), 0);
        x.undo();
        check.due("knownLength(0, 2) before the report", x.knownLength(0, 2), 1);
        x.undo();
        check.due("knownLength(0, 1) again", x.knownLength(0, 1), 1);
        check.due("knownLength(0, 2) again", x.knownLength(0, 2), 0);
    }

    private static void promise25TheQueuesComeBack() {
        comesBack("tick 1 0");
        comesBack("tick 3 0", "submit 1 7", "tick 20 0");
        comesBack("submit 1 20", "submit 1 20", "submit 1 20");
    }

    private static void promise25TheJobsComeBack() {
        IdleDispatcher x = Start.with(1, 0);
        Start.submitTimes(x, 0, 2, 2);
        x.tick(2);
        x.submit(0, 5);
        check.due("waitOf(1)", x.waitOf(1), 2);
        check.due("meanWait()", x.meanWait(), 1.0);
        x.undo();
        x.undo();
        check.due("waitOf(1) again", x.waitOf(1), NONE);
        check.due("meanWait() again", x.meanWait(), 0.0);
        check.due("finished() again", x.finished(), 0);
        check.due("submitted() again", x.submitted(), 2);
        check.due("work(0) again", x.work(0), 4);
        check.outOfBounds("serverOf(2)", () -> x.serverOf(2));
        check.due("tick(2) once more", x.tick(2), 1);
        check.due("waitOf(1) once more", x.waitOf(1), 2);
    }

    private static void promise25TheMissedJobsComeBack() {
        IdleDispatcher x = Start.with(2, 1, 1);
        x.submit(0, 9);
        x.submit(1, 9);
        check.due("missed()", x.missed(), 1);
        x.undo();
        check.due("missed() again", x.missed(), 0);
    }

    private static void promise25SavedStatesAreNotTouchedByLaterCalls() {
        String[] calls = {"submit 2 4", "setUp 4 0", "tick 30 0"};
        for (int kept = 0; kept < 3; kept++) {
            IdleDispatcher x = busy();
            IdleDispatcher straight = busy();
            for (int i = 0; i < 3; i++) {
                perform(x, calls[i]);
                if (i < kept) {
                    perform(straight, calls[i]);
                }
            }
            for (int i = kept; i < 3; i++) {
                x.undo();
            }
            check.due("readings with " + kept + " calls kept", Readings.withoutDigest(x), Readings.withoutDigest(straight));
        }
    }

    private static String perform(IdleDispatcher x, String call) {
        String[] words = call.split(" ");
        int a = Integer.parseInt(words[1]);
        int b = Integer.parseInt(words[2]);
        return Check.answer(() -> Call.on(x, words[0], a, b));
    }

    // ---- 26: digest

    // "with the overflow of long arithmetic ignored"
    private static long hashWithoutBound(List<Long> values) {
        BigInteger h = BigInteger.valueOf(2753);
        for (long v : values) {
            h = h.multiply(BigInteger.valueOf(31)).add(BigInteger.valueOf(v));
        }
        return h.mod(TWO_TO_64).longValue();
    }

    private static List<Long> values(long... given) {
        List<Long> list = new ArrayList<>();
        for (long v : given) {
            list.add(v);
        }
        return list;
    }

    private static void promise26OfANewObject() {
        // Eleven values: 2753 * 31 to the power of 11 still fits, there is no overflow.
        check.due("digest()", new IdleDispatcher().digest(), hashWithoutBound(values(0, 1, 0, 8, 0, 0, 0, 0, 0, 0, 0)));
    }

    private static void promise26OverflowIsIgnored() {
        List<Long> v = values(0, 1, 2, 8, 8);
        for (int s = 0; s < 8; s++) {
            v.addAll(values(1, 0, 0, s % 4));
        }
        v.addAll(values(4));
        for (int d = 0; d < 4; d++) {
            v.addAll(values(d, 0, 2, d, d + 4, 0, 0, 0, 0, 0, 0, 0, 0));
        }
        v.addAll(values(0, 0, 0, 0, 3));
        check.due("digest()", Start.with(8, 0, 1, 2, 3).digest(), hashWithoutBound(v));
    }

    private static void promise26IsNegativeWhereTheOverflowMakesItSo() {
        int negative = 0;
        int positive = 0;
        IdleDispatcher x = Start.with(1, 0);
        for (int i = 0; i < 40; i++) {
            x.setRandom(i * 25000);
            long due = hashWithoutBound(
                values(0, i * 25000, 2, 8, 1, 1, 0, 0, 0, 1, 0, 0, 1, 0, 0, 0, 0, 0, 0, 3));
            check.due("digest() with the state " + i * 25000, x.digest(), due);
            negative += due < 0 ? 1 : 0;
            positive += due > 0 ? 1 : 0;
        }
        check.due("both signs were seen", negative > 0 && positive > 0, true);
    }

    private static void promise26TheGreatestRandomStates() {
        IdleDispatcher x = new IdleDispatcher();
        x.addDispatcher(0);
        Draws d = new Draws(1);
        long greatest = 0;
        x.addServer();
        d.next(1);
        for (int i = 0; i < 60; i++) {
            x.setUp(0, false);
            x.setUp(0, true);
            d.next(1);
            greatest = Math.max(greatest, d.state());
            check.due("digest() after " + (i + 2) + " draws", x.digest(),
                hashWithoutBound(values(0, d.state(), 0, 8, 1, 1, 0, 0, 0, 1, 0, 0, 1, 0, 0, 0, 0, 0, 0, 3)));
        }
        check.due("a state with the highest bit was seen", greatest >= 1L << 30, true);
    }

    // "registeredAt()" is NONE, which is -1, for a server in no list.
    private static void promise26OfAServerInNoList() {
        IdleDispatcher x = new IdleDispatcher();
        x.addServer();
        check.due("digest()", x.digest(), hashWithoutBound(values(0, 1, 0, 8, 1, 1, 0, 0, -1, 0, 0, 0, 0, 0, 1)));
    }

    private static void promise26OfDispatchersWithoutServers() {
        IdleDispatcher x = new IdleDispatcher();
        x.addDispatcher(4);
        x.addDispatcher(2);
        check.due("digest()", x.digest(),
            hashWithoutBound(values(0, 1, 0, 8, 0, 2, 4, 0, 0, 2, 0, 0, 0, 0, 0, 0, 2)));
    }

    private static void promise26OfAFullListAndAnEmptyOne() {
        IdleDispatcher x = Start.with(8, 3);
        List<Long> full = values(0, 1, 2, 8, 8);
        List<Long> empty = values(0, 1, 2, 8, 8);
        for (int s = 0; s < 8; s++) {
            full.addAll(values(1, 0, 0, 0));
            empty.addAll(values(1, 1, 5, -1));
        }
        full.addAll(values(1, 3, 0, 8, 0, 1, 2, 3, 4, 5, 6, 7, 0, 0, 0, 0, 0, 0, 0, 0, 0, 0, 0, 0, 3));
        empty.addAll(values(1, 3, 0, 0, 0, 0, 0, 0, 0, 0, 0, 0, 8, 0, 0, 0, 3));
        check.due("full: digest()", x.digest(), hashWithoutBound(full));
        Start.submitTimes(x, 0, 5, 8);
        check.due("empty: digest()", x.digest(), hashWithoutBound(empty));
    }

    // "the number of saved states"
    private static void promise26SavedStatesFrom0To3() {
        IdleDispatcher x = new IdleDispatcher();
        for (int calls = 0; calls <= 5; calls++) {
            check.due("after " + calls + " calls", x.digest(), savedAlone(Math.min(calls, 3)));
            x.tick(0);
        }
        for (int left = 2; left >= 0; left--) {
            x.undo();
            check.due("after undo()", x.digest(), savedAlone(left));
        }
    }

    private static long savedAlone(int saved) {
        return hashWithoutBound(values(0, 1, 0, 8, 0, 0, 0, 0, 0, 0, saved));
    }

    // "the sum of the waits of all jobs whose service has begun"
    private static void promise26JobsThatWaitDoNotCountInTheSum() {
        IdleDispatcher x = Start.with(1, 0);
        x.setPolicy(0, 1);
        Start.submitTimes(x, 0, 3, 3);
        // One is in service with wait 0, and two wait; nothing is subtracted for their NONE.
        check.due("digest()", x.digest(),
            hashWithoutBound(values(0, 1, 2, 8, 1, 1, 3, 9, -1, 1, 1, 1, 0, 0, 3, 0, 0, 0, 3)));
        x.tick(3);
        check.due("digest() in tick 3", x.digest(),
            hashWithoutBound(values(3, 1, 2, 8, 1, 1, 2, 6, -1, 1, 1, 1, 0, 0, 3, 1, 3, 0, 3)));
        x.tick(3);
        check.due("digest() in tick 6", x.digest(),
            hashWithoutBound(values(6, 1, 2, 8, 1, 1, 1, 3, -1, 1, 1, 1, 0, 0, 3, 2, 9, 0, 3)));
    }

    private static void promise26EachValueCountsByItself() {
        String[] calls = {
            "setRandom 2 0", "setJoinMode 1 0", "setReportPeriod 9 0", "setUp 0 0", "setPolicy 0 2",
            "addServer 0 0", "addDispatcher 0 0", "submit 0 1", "tick 1 0"};
        long before = Start.with(2, 0).digest();
        for (String call : calls) {
            IdleDispatcher x = Start.with(2, 0);
            perform(x, call);
            check.due("digest() after " + call + " is another", x.digest() == before, false);
        }
    }

    private static void promise26ChangesNothing() {
        IdleDispatcher x = busy();
        long once = x.digest();
        check.due("digest() again", x.digest(), once);
        check.due("readings", Readings.of(x), Readings.of(busy()));
    }
}
