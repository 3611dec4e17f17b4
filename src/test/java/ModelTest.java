import java.util.Random;

/**
 * Long mixed runs of calls, right and wrong ones, with every answer and every
 * digest held against the model. The seeds are fixed, so a run can be told again.
 */
public final class ModelTest {
    private static final int RUNS = 600;
    private static final int CALLS = 256;
    private static final int[] WILD = {
        Integer.MIN_VALUE, -2, -1, 3, 4, 5, 7, 8, 9, 20, 21, 100, 101, 199, 200, 500, 501,
        999999, 1000000, Integer.MAX_VALUE};
    private static final String[] READS = {
        "length", "work", "registeredAt", "idleCount", "idleAt", "knownLength", "expectedLength",
        "submitted", "finished", "serverOf", "waitOf", "meanWait", "missed", "now"};
    private static final String[] CHANGES = {
        "addServer", "addDispatcher", "setPolicy", "setJoinMode", "setReportPeriod", "setRandom",
        "setUp", "setUp", "undo", "undo", "tick", "tick", "tick", "tick"};

    private static final Check check = new Check();

    public static void main(String[] args) {
        for (int seed = 0; seed < RUNS; seed++) {
            run(seed);
        }
        check.end();
    }

    private static void run(int seed) {
        Random r = new Random(seed);
        IdleDispatcher x = new IdleDispatcher();
        Model m = new Model();
        // Every tenth run submits nearly always, so that the limit of 200 jobs is met.
        int submitShare = seed % 10 == 0 ? 13 : 2 + r.nextInt(7);
        int longestTick = seed % 3 == 0 ? 3 : seed % 3 == 1 ? 12 : 60;
        int opening = seed % 10 == 0 ? 12 : r.nextInt(20);
        for (int i = 0; i < CALLS; i++) {
            String name = i < opening ? opening(r) : next(r, submitShare);
            int a = first(name, r, longestTick);
            int b = second(name, r);
            Model.Answer due = m.call(name, a, b);
            m = due.next;
            String where = "seed " + seed + " call " + i + ": " + name + "(" + a + ", " + b + ")";
            check.due(where, Check.answer(() -> Call.on(x, name, a, b)), due.text);
            check.due(where + " then digest()", String.valueOf(x.digest()), m.call("digest", 0, 0).text);
        }
    }

    private static String opening(Random r) {
        return r.nextInt(3) == 0 ? "addDispatcher" : "addServer";
    }

    private static String next(Random r, int submitShare) {
        int k = r.nextInt(14);
        if (k < submitShare) {
            return "submit";
        }
        return k % 2 == 0 ? READS[r.nextInt(READS.length)] : CHANGES[r.nextInt(CHANGES.length)];
    }

    private static int first(String name, Random r, int longestTick) {
        if (r.nextInt(25) == 0) {
            return WILD[r.nextInt(WILD.length)];
        }
        switch (name) {
            case "addDispatcher": return r.nextInt(5);
            case "setJoinMode": return r.nextInt(3);
            case "setReportPeriod": return 1 + r.nextInt(9);
            case "setRandom": return r.nextInt(1000000);
            case "tick": return r.nextInt(longestTick + 1);
            case "setUp": case "length": case "work": case "registeredAt": return r.nextInt(8);
            case "serverOf": case "waitOf": return r.nextInt(r.nextBoolean() ? 40 : 202);
            default: return r.nextInt(r.nextBoolean() ? 2 : 4);
        }
    }

    private static int second(String name, Random r) {
        if (!name.equals("setUp") && r.nextInt(25) == 0) {
            return WILD[r.nextInt(WILD.length)];
        }
        switch (name) {
            case "setPolicy": return r.nextInt(5);
            case "setUp": return r.nextInt(3) == 0 ? 0 : 1;
            case "submit": return 1 + r.nextInt(20) / (1 + r.nextInt(8));
            case "idleAt": return r.nextInt(4);
            case "knownLength": return r.nextInt(8);
            default: return r.nextInt(2);
        }
    }
}
