/** The five examples of the document, word for word. */
public final class ExamplesTest {
    private static final Check check = new Check();

    public static void main(String[] args) {
        idleServersThatHaveRegistered();
        shorterOfTwoDrawnQueues();
        staleReports();
        dispatcherWithoutServer();
        exceptions();
        check.end();
    }

    private static void idleServersThatHaveRegistered() {
        IdleDispatcher x = new IdleDispatcher();
        check.due("1 addDispatcher(3)", x.addDispatcher(3), 0);
        check.due("1 addServer()", x.addServer(), 0);
        check.due("1 addServer()", x.addServer(), 1);
        check.due("1 idleCount(0)", x.idleCount(0), 2);
        check.due("1 submit(0, 5)", x.submit(0, 5), 0);
        check.due("1 submit(0, 3)", x.submit(0, 3), 1);
        check.due("1 submit(0, 2)", x.submit(0, 2), 1);
        check.due("1 tick(3)", x.tick(3), 1);
        check.due("1 registeredAt(1)", x.registeredAt(1), -1);
        check.due("1 meanWait()", x.meanWait(), 1.0);
    }

    private static void shorterOfTwoDrawnQueues() {
        IdleDispatcher x = new IdleDispatcher();
        check.due("2 addDispatcher(2)", x.addDispatcher(2), 0);
        check.due("2 addServer()", x.addServer(), 0);
        check.due("2 addServer()", x.addServer(), 1);
        check.due("2 submit(0, 4)", x.submit(0, 4), 1);
        check.due("2 expectedLength(0, 0)", x.expectedLength(0, 0), 1);
        check.due("2 expectedLength(0, 1)", x.expectedLength(0, 1), 4);
    }

    private static void staleReports() {
        IdleDispatcher x = new IdleDispatcher();
        check.due("3 addDispatcher(4)", x.addDispatcher(4), 0);
        check.due("3 addServer()", x.addServer(), 0);
        check.due("3 addServer()", x.addServer(), 1);
        check.due("3 submit(0, 9)", x.submit(0, 9), 0);
        check.due("3 submit(0, 9)", x.submit(0, 9), 1);
        check.due("3 submit(0, 9)", x.submit(0, 9), 0);
        check.due("3 knownLength(0, 0)", x.knownLength(0, 0), 2);
        check.due("3 tick(8)", x.tick(8), 0);
        check.due("3 knownLength(0, 0)", x.knownLength(0, 0), 2);
    }

    private static void dispatcherWithoutServer() {
        IdleDispatcher x = new IdleDispatcher();
        check.due("4 addDispatcher(0)", x.addDispatcher(0), 0);
        check.illegalState("4 submit(0, 1)", () -> x.submit(0, 1));
        check.due("4 addServer()", x.addServer(), 0);
        check.illegalArgument("4 submit(0, 21)", () -> x.submit(0, 21));
    }

    private static void exceptions() {
        IdleDispatcher x = new IdleDispatcher();
        check.illegalState("5 undo()", x::undo);
        check.illegalArgument("5 idleAt(0, 0)", () -> x.idleAt(0, 0));
        check.outOfBounds("5 serverOf(0)", () -> x.serverOf(0));
    }
}
