/**
 * A simulator of distributed load balancing: several dispatchers send jobs to
 * servers by one of five policies, and idle servers register with dispatchers.
 *
 * All rows are made with the object and used again: no call makes anything but
 * the exception that it throws.
 */
public final class IdleDispatcher {
    public static final int NONE = -1;

    private static final int MAX_SERVERS = 8;
    private static final int MAX_DISPATCHERS = 4;
    private static final int MAX_JOBS = 200;
    private static final int MAX_SIZE = 20;
    private static final int MAX_TICKS = 500;
    private static final int MAX_PERIOD = 100;
    private static final int MAX_RANDOM = 999999;
    private static final int MAX_SAVED = 3;

    private static final int POLICY_IN_TURN = 1;
    private static final int POLICY_TWO_CHOICES = 2;
    private static final int POLICY_IDLE_QUEUE = 3;
    private static final int POLICY_STALE_REPORTS = 4;
    private static final int MAX_POLICY = 4;

    private static final int MODE_SHORTER_OF_TWO = 1;
    private static final int MODE_BY_NUMBER = 2;
    private static final int MAX_MODE = 2;

    private static final int NUMERATOR = 0;
    private static final int DENOMINATOR = 1;

    private static final int FIRST_PERIOD = 8;
    private static final long FIRST_RANDOM = 1L;
    private static final long RANDOM_FACTOR = 1103515245L;
    private static final long RANDOM_STEP = 12345L;
    private static final long RANDOM_MODULUS = 2147483648L;
    private static final long RANDOM_DROPPED = 65536L;

    private static final long HASH_START = 2753L;

    private State state;
    private final State[] saved;
    private int savedCount;

    public IdleDispatcher() {
        state = new State();
        saved = new State[MAX_SAVED];
        for (int i = 0; i < MAX_SAVED; i++) {
            saved[i] = new State();
        }
        savedCount = 0;
    }

    // ---- building

    public int addServer() throws IllegalStateException {
        if (state.serverCount >= MAX_SERVERS) {
            throw new IllegalStateException("there are 8 servers");
        }
        save();
        return state.openServer();
    }

    public int addDispatcher(int policy) throws IllegalArgumentException, IllegalStateException {
        requireRange(policy, 0, MAX_POLICY);
        if (state.dispatcherCount >= MAX_DISPATCHERS) {
            throw new IllegalStateException("there are 4 dispatchers");
        }
        save();
        return state.openDispatcher(policy);
    }

    public int setPolicy(int dispatcher, int policy) throws IllegalArgumentException {
        requireDispatcher(dispatcher);
        requireRange(policy, 0, MAX_POLICY);
        save();
        int before = state.dispatchers[dispatcher].policy;
        state.dispatchers[dispatcher].policy = policy;
        return before;
    }

    public int setJoinMode(int mode) throws IllegalArgumentException {
        requireRange(mode, 0, MAX_MODE);
        save();
        int before = state.joinMode;
        state.joinMode = mode;
        return before;
    }

    public int setReportPeriod(int ticks) throws IllegalArgumentException {
        requireRange(ticks, 1, MAX_PERIOD);
        save();
        int before = state.reportPeriod;
        state.reportPeriod = ticks;
        return before;
    }

    public int setRandom(int x) throws IllegalArgumentException {
        requireRange(x, 0, MAX_RANDOM);
        save();
        state.random = x;
        return 1;
    }

    public boolean setUp(int server, boolean up) throws IllegalArgumentException {
        requireServer(server);
        save();
        return state.switchServer(server, up);
    }

    // ---- running

    public int submit(int dispatcher, int size) throws IllegalArgumentException, IllegalStateException {
        requireDispatcher(dispatcher);
        requireRange(size, 1, MAX_SIZE);
        requireServerUp();
        if (state.jobs.count >= MAX_JOBS) {
            throw new IllegalStateException("200 jobs have been submitted");
        }
        save();
        return state.dispatch(dispatcher, size);
    }

    public int tick(int n) throws IllegalArgumentException {
        requireRange(n, 0, MAX_TICKS);
        save();
        int before = state.jobs.finished;
        for (int i = 0; i < n; i++) {
            state.passTick();
        }
        return state.jobs.finished - before;
    }

    // ---- servers

    public int length(int server) throws IllegalArgumentException {
        requireServer(server);
        return state.servers[server].length;
    }

    public int work(int server) throws IllegalArgumentException {
        requireServer(server);
        return state.servers[server].work;
    }

    public int registeredAt(int server) throws IllegalArgumentException {
        requireServer(server);
        return state.servers[server].registeredAt;
    }

    // ---- dispatchers

    public int idleCount(int dispatcher) throws IllegalArgumentException {
        requireDispatcher(dispatcher);
        return state.dispatchers[dispatcher].idleCount;
    }

    public int idleAt(int dispatcher, int index) throws IllegalArgumentException, IndexOutOfBoundsException {
        requireDispatcher(dispatcher);
        requireIndex(index, state.dispatchers[dispatcher].idleCount);
        return state.dispatchers[dispatcher].idle[index];
    }

    public int knownLength(int dispatcher, int server) throws IllegalArgumentException {
        requireDispatcher(dispatcher);
        requireServer(server);
        return state.dispatchers[dispatcher].known[server];
    }

    public int expectedLength(int dispatcher, int part) throws IllegalArgumentException, IllegalStateException {
        requireDispatcher(dispatcher);
        requireRange(part, NUMERATOR, DENOMINATOR);
        requireServerUp();
        int sum = state.sumOverOutcomes(dispatcher);
        int outcomes = state.countOutcomes(dispatcher);
        int told = part == NUMERATOR ? sum : outcomes;
        return told / commonDivisor(sum, outcomes);
    }

    // ---- jobs

    public int submitted() {
        return state.jobs.count;
    }

    public int finished() {
        return state.jobs.finished;
    }

    public int serverOf(int job) throws IndexOutOfBoundsException {
        requireIndex(job, state.jobs.count);
        return state.jobs.server[job];
    }

    public int waitOf(int job) throws IndexOutOfBoundsException {
        requireIndex(job, state.jobs.count);
        return state.jobs.wait[job];
    }

    public double meanWait() {
        if (state.jobs.begun <= 0) {
            return 0.0;
        }
        return (double) state.jobs.waitSum / (double) state.jobs.begun;
    }

    public int missed() {
        return state.jobs.missed;
    }

    // ---- state

    public int now() {
        return state.now;
    }

    public int undo() throws IllegalStateException {
        if (savedCount <= 0) {
            throw new IllegalStateException("there is no saved state");
        }
        savedCount--;
        // The two change places, so that the row of the left state is used again.
        State left = state;
        state = saved[savedCount];
        saved[savedCount] = left;
        return savedCount;
    }

    public long digest() {
        return mix(state.mixAll(HASH_START), savedCount);
    }

    // ---- what the methods above share

    private void save() {
        if (savedCount >= MAX_SAVED) {
            dropOldest();
        }
        saved[savedCount].copyFrom(state);
        savedCount++;
    }

    private void dropOldest() {
        State oldest = saved[0];
        for (int i = 1; i < MAX_SAVED; i++) {
            saved[i - 1] = saved[i];
        }
        saved[MAX_SAVED - 1] = oldest;
        savedCount = MAX_SAVED - 1;
    }

    private void requireServer(int server) {
        if (server < 0 || server >= state.serverCount) {
            throw new IllegalArgumentException("there is no such server");
        }
    }

    private void requireDispatcher(int dispatcher) {
        if (dispatcher < 0 || dispatcher >= state.dispatcherCount) {
            throw new IllegalArgumentException("there is no such dispatcher");
        }
    }

    private void requireServerUp() {
        if (state.candidateCount <= 0) {
            throw new IllegalStateException("no server is up");
        }
    }

    private static void requireRange(int value, int least, int most) {
        if (value < least || value > most) {
            throw new IllegalArgumentException("an argument is out of range");
        }
    }

    private static void requireIndex(int index, int count) {
        if (index < 0 || index >= count) {
            throw new IndexOutOfBoundsException("there is no such index");
        }
    }

    /** The greatest common divisor; at least 1, so that it can always divide. */
    private static int commonDivisor(int numerator, int denominator) {
        for (int d = denominator; d > 1; d--) {
            if (numerator % d == 0 && denominator % d == 0) {
                return d;
            }
        }
        return 1;
    }

    private static long mix(long hash, long value) {
        return 31L * hash + value;
    }

    private static final class Server {
        boolean up;
        int length;
        int work;
        int registeredAt;
        int firstJob;
        int lastJob;

        Server() {
            up = true;
            length = 0;
            work = 0;
            registeredAt = NONE;
            firstJob = NONE;
            lastJob = NONE;
        }

        void copyFrom(Server other) {
            up = other.up;
            length = other.length;
            work = other.work;
            registeredAt = other.registeredAt;
            firstJob = other.firstJob;
            lastJob = other.lastJob;
        }

        boolean isIdle() {
            return up && length == 0;
        }

        long mixAll(long start) {
            long hash = mix(start, up ? 1 : 0);
            hash = mix(hash, length);
            hash = mix(hash, work);
            return mix(hash, registeredAt);
        }
    }

    private static final class Dispatcher {
        int policy;
        int pointer;
        int idleCount;
        final int[] idle;
        final int[] known;

        Dispatcher() {
            policy = 0;
            pointer = 0;
            idleCount = 0;
            idle = new int[MAX_SERVERS];
            known = new int[MAX_SERVERS];
        }

        void copyFrom(Dispatcher other) {
            policy = other.policy;
            pointer = other.pointer;
            idleCount = other.idleCount;
            System.arraycopy(other.idle, 0, idle, 0, MAX_SERVERS);
            System.arraycopy(other.known, 0, known, 0, MAX_SERVERS);
        }

        void appendIdle(int server) {
            if (idleCount < MAX_SERVERS) {
                idle[idleCount] = server;
                idleCount++;
            }
        }

        void removeIdle(int server) {
            int kept = 0;
            for (int i = 0; i < idleCount; i++) {
                if (idle[i] != server) {
                    idle[kept] = idle[i];
                    kept++;
                }
            }
            idleCount = kept;
        }

        long mixAll(long start, int serverCount) {
            long hash = mix(start, policy);
            hash = mix(hash, pointer);
            hash = mix(hash, idleCount);
            for (int i = 0; i < idleCount; i++) {
                hash = mix(hash, idle[i]);
            }
            for (int i = 0; i < serverCount; i++) {
                hash = mix(hash, known[i]);
            }
            return hash;
        }
    }

    /** The jobs by number; the queue of a server is a chain through next. */
    private static final class Jobs {
        int count;
        int finished;
        int begun;
        int waitSum;
        int missed;
        final int[] server;
        final int[] left;
        final int[] submittedAt;
        final int[] wait;
        final int[] next;

        Jobs() {
            count = 0;
            finished = 0;
            begun = 0;
            waitSum = 0;
            missed = 0;
            server = new int[MAX_JOBS];
            left = new int[MAX_JOBS];
            submittedAt = new int[MAX_JOBS];
            wait = new int[MAX_JOBS];
            next = new int[MAX_JOBS];
        }

        void copyFrom(Jobs other) {
            count = other.count;
            finished = other.finished;
            begun = other.begun;
            waitSum = other.waitSum;
            missed = other.missed;
            // What stands behind the count is never read before it is written.
            System.arraycopy(other.server, 0, server, 0, count);
            System.arraycopy(other.left, 0, left, 0, count);
            System.arraycopy(other.submittedAt, 0, submittedAt, 0, count);
            System.arraycopy(other.wait, 0, wait, 0, count);
            System.arraycopy(other.next, 0, next, 0, count);
        }

        /** Notes a new job behind all others; NONE if there is no room. */
        int append(int toServer, int size, int time) {
            if (count >= MAX_JOBS) {
                return NONE;
            }
            int job = count;
            count++;
            server[job] = toServer;
            left[job] = size;
            submittedAt[job] = time;
            wait[job] = NONE;
            next[job] = NONE;
            return job;
        }

        void begin(int job, int time) {
            wait[job] = time - submittedAt[job];
            waitSum += wait[job];
            begun++;
        }
    }

    /** Everything that undo brings back. */
    private static final class State {
        int now;
        long random;
        int joinMode;
        int reportPeriod;
        int serverCount;
        int dispatcherCount;
        final Server[] servers;
        final Dispatcher[] dispatchers;
        final Jobs jobs;
        int candidateCount;
        final int[] candidates;

        State() {
            now = 0;
            random = FIRST_RANDOM;
            joinMode = 0;
            reportPeriod = FIRST_PERIOD;
            serverCount = 0;
            dispatcherCount = 0;
            servers = new Server[MAX_SERVERS];
            for (int i = 0; i < MAX_SERVERS; i++) {
                servers[i] = new Server();
            }
            dispatchers = new Dispatcher[MAX_DISPATCHERS];
            for (int i = 0; i < MAX_DISPATCHERS; i++) {
                dispatchers[i] = new Dispatcher();
            }
            jobs = new Jobs();
            candidateCount = 0;
            candidates = new int[MAX_SERVERS];
        }

        void copyFrom(State other) {
            now = other.now;
            random = other.random;
            joinMode = other.joinMode;
            reportPeriod = other.reportPeriod;
            serverCount = other.serverCount;
            dispatcherCount = other.dispatcherCount;
            // The unused ones too: they must be as new when they are added again.
            for (int i = 0; i < MAX_SERVERS; i++) {
                servers[i].copyFrom(other.servers[i]);
            }
            for (int i = 0; i < MAX_DISPATCHERS; i++) {
                dispatchers[i].copyFrom(other.dispatchers[i]);
            }
            jobs.copyFrom(other.jobs);
            collectCandidates();
        }

        int openServer() {
            int number = serverCount;
            serverCount++;
            collectCandidates();
            register(number);
            return number;
        }

        int openDispatcher(int policy) {
            int number = dispatcherCount;
            dispatcherCount++;
            dispatchers[number].policy = policy;
            return number;
        }

        boolean switchServer(int number, boolean up) {
            Server server = servers[number];
            boolean before = server.up;
            server.up = up;
            collectCandidates();
            if (!up) {
                leaveIdleList(number);
            } else if (!before && server.length == 0) {
                register(number);
            }
            return before;
        }

        /** A number from 0 to n - 1; n is at least 1. */
        int draw(int n) {
            random = (random * RANDOM_FACTOR + RANDOM_STEP) % RANDOM_MODULUS;
            return n < 1 ? 0 : (int) (random / RANDOM_DROPPED % n);
        }

        // ---- idle lists

        void register(int number) {
            if (dispatcherCount < 1) {
                return;
            }
            int chosen = chooseList(number);
            dispatchers[chosen].appendIdle(number);
            servers[number].registeredAt = chosen;
        }

        int chooseList(int number) {
            if (joinMode == MODE_BY_NUMBER) {
                return dispatcherCount < 1 ? 0 : number % dispatcherCount;
            }
            int first = draw(dispatcherCount);
            if (joinMode != MODE_SHORTER_OF_TWO) {
                return first;
            }
            int second = draw(dispatcherCount);
            return dispatchers[second].idleCount < dispatchers[first].idleCount ? second : first;
        }

        void leaveIdleList(int number) {
            int list = servers[number].registeredAt;
            if (list != NONE) {
                dispatchers[list].removeIdle(number);
                servers[number].registeredAt = NONE;
            }
        }

        // ---- choosing a server

        /** Called whenever a server comes, goes up or goes down, so that the row always holds. */
        void collectCandidates() {
            candidateCount = 0;
            for (int i = 0; i < serverCount; i++) {
                if (servers[i].up) {
                    candidates[candidateCount] = i;
                    candidateCount++;
                }
            }
        }

        /** The server that is taken without a draw; NONE if draws decide. */
        int certainServer(Dispatcher dispatcher) {
            switch (dispatcher.policy) {
                case POLICY_IN_TURN:
                    return nextInTurn(dispatcher.pointer);
                case POLICY_IDLE_QUEUE:
                    return dispatcher.idleCount > 0 ? dispatcher.idle[0] : NONE;
                case POLICY_STALE_REPORTS:
                    return leastKnown(dispatcher.known);
                default:
                    return NONE;
            }
        }

        int nextInTurn(int pointer) {
            for (int i = 0; i < candidateCount; i++) {
                if (candidates[i] >= pointer) {
                    return candidates[i];
                }
            }
            return candidates[0];
        }

        int leastKnown(int[] known) {
            int best = candidates[0];
            for (int i = 1; i < candidateCount; i++) {
                if (known[candidates[i]] < known[best]) {
                    best = candidates[i];
                }
            }
            return best;
        }

        int drawServer(int policy) {
            int first = candidates[draw(candidateCount)];
            if (policy != POLICY_TWO_CHOICES) {
                return first;
            }
            int second = candidates[draw(candidateCount)];
            return servers[second].length < servers[first].length ? second : first;
        }

        int takeServer(Dispatcher dispatcher) {
            int certain = certainServer(dispatcher);
            int taken = certain == NONE ? drawServer(dispatcher.policy) : certain;
            if (dispatcher.policy == POLICY_IN_TURN) {
                dispatcher.pointer = taken + 1;
            } else if (dispatcher.policy == POLICY_STALE_REPORTS) {
                dispatcher.known[taken]++;
            }
            return taken;
        }

        // ---- the expectation

        int sumOverOutcomes(int number) {
            Dispatcher dispatcher = dispatchers[number];
            int certain = certainServer(dispatcher);
            if (certain != NONE) {
                return servers[certain].length;
            }
            return dispatcher.policy == POLICY_TWO_CHOICES ? sumOverPairs() : sumOverCandidates();
        }

        int countOutcomes(int number) {
            Dispatcher dispatcher = dispatchers[number];
            if (certainServer(dispatcher) != NONE) {
                return 1;
            }
            return dispatcher.policy == POLICY_TWO_CHOICES ? candidateCount * candidateCount : candidateCount;
        }

        int sumOverCandidates() {
            int sum = 0;
            for (int i = 0; i < candidateCount; i++) {
                sum += servers[candidates[i]].length;
            }
            return sum;
        }

        int sumOverPairs() {
            int sum = 0;
            for (int i = 0; i < candidateCount; i++) {
                int first = servers[candidates[i]].length;
                for (int j = 0; j < candidateCount; j++) {
                    sum += Math.min(first, servers[candidates[j]].length);
                }
            }
            return sum;
        }

        // ---- jobs and ticks

        int dispatch(int number, int size) {
            int taken = takeServer(dispatchers[number]);
            // Before the job comes: it must not count in the length that is looked at.
            if (servers[taken].length > 0 && anyIdle()) {
                jobs.missed++;
            }
            leaveIdleList(taken);
            enqueue(taken, size);
            return taken;
        }

        boolean anyIdle() {
            for (int i = 0; i < serverCount; i++) {
                if (servers[i].isIdle()) {
                    return true;
                }
            }
            return false;
        }

        void enqueue(int number, int size) {
            int job = jobs.append(number, size, now);
            if (job == NONE) {
                return;
            }
            Server server = servers[number];
            if (server.lastJob == NONE) {
                server.firstJob = job;
                jobs.begin(job, now);
            } else {
                jobs.next[server.lastJob] = job;
            }
            server.lastJob = job;
            server.length++;
            server.work += size;
        }

        void passTick() {
            now++;
            for (int i = 0; i < serverCount; i++) {
                serve(i);
            }
            if (reportPeriod > 0 && now % reportPeriod == 0) {
                report();
            }
        }

        void serve(int number) {
            Server server = servers[number];
            int job = server.firstJob;
            if (job == NONE) {
                return;
            }
            server.work--;
            jobs.left[job]--;
            if (jobs.left[job] <= 0) {
                finish(server, job);
                if (server.isIdle()) {
                    register(number);
                }
            }
        }

        void finish(Server server, int job) {
            jobs.finished++;
            server.length--;
            server.firstJob = jobs.next[job];
            if (server.firstJob == NONE) {
                server.lastJob = NONE;
            } else {
                jobs.begin(server.firstJob, now);
            }
        }

        void report() {
            for (int d = 0; d < dispatcherCount; d++) {
                for (int s = 0; s < serverCount; s++) {
                    dispatchers[d].known[s] = servers[s].length;
                }
            }
        }

        long mixAll(long start) {
            long hash = mix(start, now);
            hash = mix(hash, random);
            hash = mix(hash, joinMode);
            hash = mix(hash, reportPeriod);
            hash = mix(hash, serverCount);
            for (int i = 0; i < serverCount; i++) {
                hash = servers[i].mixAll(hash);
            }
            hash = mix(hash, dispatcherCount);
            for (int i = 0; i < dispatcherCount; i++) {
                hash = dispatchers[i].mixAll(hash, serverCount);
            }
            hash = mix(hash, jobs.count);
            hash = mix(hash, jobs.finished);
            hash = mix(hash, jobs.waitSum);
            return mix(hash, jobs.missed);
        }
    }
}
