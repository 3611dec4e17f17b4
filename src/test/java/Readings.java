import java.util.concurrent.Callable;

/** What all reading calls answer, each up to the first number that it refuses. */
final class Readings {
    /** More jobs than this are read with gaps: an object is promised for 512 calls only. */
    private static final int JOBS_READ = 20;

    private final IdleDispatcher x;
    private final StringBuilder all = new StringBuilder();

    private Readings(IdleDispatcher x) {
        this.x = x;
    }

    static String of(IdleDispatcher x) {
        Readings r = new Readings(x);
        r.readServers();
        r.readDispatchers();
        r.readJobs();
        r.read("digest()", x::digest);
        return r.all.toString();
    }

    /** All but the digest, which counts the saved states, too. */
    static String withoutDigest(IdleDispatcher x) {
        String all = of(x);
        return all.substring(0, all.indexOf("digest()"));
    }

    private boolean read(String call, Callable<?> body) {
        String answer = Check.answer(body);
        all.append(call).append('=').append(answer).append(' ');
        return !answer.startsWith("throws.");
    }

    private void readServers() {
        boolean more = true;
        for (int s = 0; more; s++) {
            int server = s;
            more = read("length(" + s + ")", () -> x.length(server));
            read("work(" + s + ")", () -> x.work(server));
            read("registeredAt(" + s + ")", () -> x.registeredAt(server));
        }
    }

    private void readDispatchers() {
        boolean more = true;
        for (int d = 0; more; d++) {
            int dispatcher = d;
            more = read("idleCount(" + d + ")", () -> x.idleCount(dispatcher));
            read("expectedLength(" + d + ", 0)", () -> x.expectedLength(dispatcher, 0));
            read("expectedLength(" + d + ", 1)", () -> x.expectedLength(dispatcher, 1));
            readRows(d);
        }
    }

    private void readRows(int dispatcher) {
        boolean more = true;
        for (int i = 0; more; i++) {
            int index = i;
            more = read("idleAt(" + dispatcher + ", " + i + ")", () -> x.idleAt(dispatcher, index));
        }
        more = true;
        for (int s = 0; more; s++) {
            int server = s;
            more = read("knownLength(" + dispatcher + ", " + s + ")", () -> x.knownLength(dispatcher, server));
        }
    }

    private void readJobs() {
        int count = x.submitted();
        int step = 1 + count / JOBS_READ;
        for (int j = 0; j < count; j += step) {
            readJob(j);
        }
        readJob(count - 1);
        readJob(count);
        read("submitted()", x::submitted);
        read("finished()", x::finished);
        read("meanWait()", x::meanWait);
        read("missed()", x::missed);
        read("now()", x::now);
    }

    private void readJob(int job) {
        read("serverOf(" + job + ")", () -> x.serverOf(job));
        read("waitOf(" + job + ")", () -> x.waitOf(job));
    }
}
