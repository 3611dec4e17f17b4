/** Calls a method of the class by its name; arguments that it does not take are left aside. */
final class Call {
    private Call() {
    }

    static Object on(IdleDispatcher x, String name, int a, int b) {
        switch (name) {
            case "addServer": return x.addServer();
            case "addDispatcher": return x.addDispatcher(a);
            case "setPolicy": return x.setPolicy(a, b);
            case "setJoinMode": return x.setJoinMode(a);
            case "setReportPeriod": return x.setReportPeriod(a);
            case "setRandom": return x.setRandom(a);
            case "setUp": return x.setUp(a, b != 0);
            case "submit": return x.submit(a, b);
            case "tick": return x.tick(a);
            case "length": return x.length(a);
            case "work": return x.work(a);
            case "registeredAt": return x.registeredAt(a);
            case "idleCount": return x.idleCount(a);
            case "idleAt": return x.idleAt(a, b);
            case "knownLength": return x.knownLength(a, b);
            case "expectedLength": return x.expectedLength(a, b);
            case "submitted": return x.submitted();
            case "finished": return x.finished();
            case "serverOf": return x.serverOf(a);
            case "waitOf": return x.waitOf(a);
            case "meanWait": return x.meanWait();
            case "missed": return x.missed();
            case "now": return x.now();
            case "undo": return x.undo();
            case "digest": return x.digest();
            default: throw new AssertionError(name);
        }
    }
}
