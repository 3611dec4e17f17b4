/** Objects that tests begin with. */
final class Start {
    private Start() {
    }

    /**
     * Dispatchers with these policies, then servers, in join mode 2: nothing has been
     * drawn, and server s stands in the idle list of dispatcher s modulo their number.
     */
    static IdleDispatcher with(int servers, int... policies) {
        IdleDispatcher x = new IdleDispatcher();
        x.setJoinMode(2);
        for (int policy : policies) {
            x.addDispatcher(policy);
        }
        for (int s = 0; s < servers; s++) {
            x.addServer();
        }
        return x;
    }

    static void submitTimes(IdleDispatcher x, int dispatcher, int size, int times) {
        for (int i = 0; i < times; i++) {
            x.submit(dispatcher, size);
        }
    }

    /** The servers of an idle list in order, one digit each. */
    static String idleList(IdleDispatcher x, int dispatcher) {
        StringBuilder servers = new StringBuilder();
        for (int i = 0; i < x.idleCount(dispatcher); i++) {
            servers.append(x.idleAt(dispatcher, i));
        }
        return servers.toString();
    }

    /** The servers that so many jobs of one size go to, one digit each. */
    static String taken(IdleDispatcher x, int dispatcher, int size, int times) {
        StringBuilder servers = new StringBuilder();
        for (int i = 0; i < times; i++) {
            servers.append(x.submit(dispatcher, size));
        }
        return servers.toString();
    }

    static String expected(IdleDispatcher x, int dispatcher) {
        return x.expectedLength(dispatcher, 0) + "/" + x.expectedLength(dispatcher, 1);
    }
}
