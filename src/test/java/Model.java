import java.math.BigInteger;
import java.util.ArrayDeque;
import java.util.ArrayList;
import java.util.List;

/**
 * The document told a second time, as slowly and literally as can be: nothing is
 * kept that can be counted from the queues, the lists and the jobs.
 */
final class Model {
    private static final class Job {
        int server;
        int left;
        int came;
        int began = -1;
        boolean done = false;
        boolean missed;

        Job copy() {
            Job c = new Job();
            c.server = server;
            c.left = left;
            c.came = came;
            c.began = began;
            c.done = done;
            c.missed = missed;
            return c;
        }
    }

    private static final class Dispatcher {
        int policy;
        int pointer = 0;
        List<Integer> idle = new ArrayList<>();
        List<Integer> table = new ArrayList<>();
    }

    private int ticks = 0;
    private BigInteger x = BigInteger.ONE;
    private int mode = 0;
    private int period = 8;
    private final List<Boolean> up = new ArrayList<>();
    private final List<Dispatcher> dispatchers = new ArrayList<>();
    private final List<Job> jobs = new ArrayList<>();
    private final ArrayDeque<Model> savedStates;

    Model() {
        this(new ArrayDeque<>());
    }

    private Model(ArrayDeque<Model> savedStates) {
        this.savedStates = savedStates;
    }

    /** The model after the call stands in next; the answer comes back as text. */
    static final class Answer {
        final String text;
        final Model next;

        Answer(String text, Model next) {
            this.text = text;
            this.next = next;
        }
    }

    Answer call(String name, int a, int b) {
        if (name.equals("undo")) {
            if (savedStates.isEmpty()) {
                return new Answer("throws.IllegalStateException", this);
            }
            Model back = savedStates.removeLast();
            return new Answer(String.valueOf(savedStates.size()), back);
        }
        String refusal = refusal(name, a, b);
        if (refusal != null) {
            return new Answer("throws." + refusal, this);
        }
        if (undoable(name)) {
            savedStates.addLast(copy());
            if (savedStates.size() > 3) {
                savedStates.removeFirst();
            }
        }
        return new Answer(answer(name, a, b), this);
    }

    private static boolean undoable(String name) {
        return name.startsWith("add") || name.startsWith("set") || name.equals("submit") || name.equals("tick");
    }

    private String refusal(String name, int a, int b) {
        String argument = "IllegalArgumentException";
        String state = "IllegalStateException";
        String index = "IndexOutOfBoundsException";
        switch (name) {
            case "addServer": return up.size() == 8 ? state : null;
            case "addDispatcher": return out(a, 0, 4) ? argument : dispatchers.size() == 4 ? state : null;
            case "setPolicy": return noDispatcher(a) || out(b, 0, 4) ? argument : null;
            case "setJoinMode": return out(a, 0, 2) ? argument : null;
            case "setReportPeriod": return out(a, 1, 100) ? argument : null;
            case "setRandom": return out(a, 0, 999999) ? argument : null;
            case "tick": return out(a, 0, 500) ? argument : null;
            case "submit":
                if (noDispatcher(a) || out(b, 1, 20)) {
                    return argument;
                }
                return candidates().isEmpty() || jobs.size() == 200 ? state : null;
            case "setUp": case "length": case "work": case "registeredAt":
                return noServer(a) ? argument : null;
            case "idleCount": return noDispatcher(a) ? argument : null;
            case "idleAt":
                return noDispatcher(a) ? argument : out(b, 0, dispatchers.get(a).idle.size() - 1) ? index : null;
            case "knownLength": return noDispatcher(a) || noServer(b) ? argument : null;
            case "expectedLength":
                return noDispatcher(a) || out(b, 0, 1) ? argument : candidates().isEmpty() ? state : null;
            case "serverOf": case "waitOf": return out(a, 0, jobs.size() - 1) ? index : null;
            default: return null;
        }
    }

    private String answer(String name, int a, int b) {
        switch (name) {
            case "addServer": return text(addServer());
            case "addDispatcher": return text(addDispatcher(a));
            case "setPolicy": {
                int before = dispatchers.get(a).policy;
                dispatchers.get(a).policy = b;
                return text(before);
            }
            case "setJoinMode": {
                int before = mode;
                mode = a;
                return text(before);
            }
            case "setReportPeriod": {
                int before = period;
                period = a;
                return text(before);
            }
            case "setRandom":
                x = BigInteger.valueOf(a);
                return text(1);
            case "setUp": return String.valueOf(setUp(a, b != 0));
            case "submit": return text(submit(a, b));
            case "tick": return text(tick(a));
            case "length": return text(queue(a).size());
            case "work": return text(work(a));
            case "registeredAt": return text(registeredAt(a));
            case "idleCount": return text(dispatchers.get(a).idle.size());
            case "idleAt": return text(dispatchers.get(a).idle.get(b));
            case "knownLength": return text(dispatchers.get(a).table.get(b));
            case "expectedLength": return text(expected(a, b));
            case "submitted": return text(jobs.size());
            case "finished": return text(finished());
            case "serverOf": return text(jobs.get(a).server);
            case "waitOf": return text(jobs.get(a).began < 0 ? -1 : jobs.get(a).began - jobs.get(a).came);
            case "meanWait": return String.valueOf(begun() == 0 ? 0.0 : (double) waits() / (double) begun());
            case "missed": return text(missed());
            case "now": return text(ticks);
            case "digest": return String.valueOf(digest());
            default: throw new AssertionError(name);
        }
    }

    private static String text(int n) {
        return String.valueOf(n);
    }

    private static boolean out(int v, int least, int most) {
        return v < least || v > most;
    }

    private boolean noServer(int s) {
        return out(s, 0, up.size() - 1);
    }

    private boolean noDispatcher(int d) {
        return out(d, 0, dispatchers.size() - 1);
    }

    private int draw(int n) {
        x = x.multiply(BigInteger.valueOf(1103515245)).add(BigInteger.valueOf(12345)).mod(BigInteger.ONE.shiftLeft(31));
        return x.shiftRight(16).mod(BigInteger.valueOf(n)).intValueExact();
    }

    private List<Integer> candidates() {
        List<Integer> found = new ArrayList<>();
        for (int s = 0; s < up.size(); s++) {
            if (up.get(s)) {
                found.add(s);
            }
        }
        return found;
    }

    private List<Job> queue(int server) {
        List<Job> found = new ArrayList<>();
        for (Job j : jobs) {
            if (j.server == server && !j.done) {
                found.add(j);
            }
        }
        return found;
    }

    private int work(int server) {
        return queue(server).stream().mapToInt(j -> j.left).sum();
    }

    private int finished() {
        return (int) jobs.stream().filter(j -> j.done).count();
    }

    private int begun() {
        return (int) jobs.stream().filter(j -> j.began >= 0).count();
    }

    private int waits() {
        return jobs.stream().filter(j -> j.began >= 0).mapToInt(j -> j.began - j.came).sum();
    }

    private int missed() {
        return (int) jobs.stream().filter(j -> j.missed).count();
    }

    private int registeredAt(int server) {
        for (int d = 0; d < dispatchers.size(); d++) {
            if (dispatchers.get(d).idle.contains(server)) {
                return d;
            }
        }
        return -1;
    }

    private void leave(int server) {
        for (Dispatcher d : dispatchers) {
            d.idle.remove(Integer.valueOf(server));
        }
    }

    private void register(int server) {
        int n = dispatchers.size();
        if (n == 0) {
            return;
        }
        int d;
        if (mode == 2) {
            d = server % n;
        } else {
            d = draw(n);
            if (mode == 1) {
                int e = draw(n);
                if (dispatchers.get(e).idle.size() < dispatchers.get(d).idle.size()) {
                    d = e;
                }
            }
        }
        dispatchers.get(d).idle.add(server);
    }

    private int addServer() {
        up.add(true);
        for (Dispatcher d : dispatchers) {
            d.table.add(0);
        }
        register(up.size() - 1);
        return up.size() - 1;
    }

    private int addDispatcher(int policy) {
        Dispatcher d = new Dispatcher();
        d.policy = policy;
        for (int s = 0; s < up.size(); s++) {
            d.table.add(0);
        }
        dispatchers.add(d);
        return dispatchers.size() - 1;
    }

    private boolean setUp(int server, boolean to) {
        boolean before = up.get(server);
        up.set(server, to);
        if (!to) {
            leave(server);
        }
        if (to && !before && queue(server).isEmpty()) {
            register(server);
        }
        return before;
    }

    private int submit(int number, int size) {
        Dispatcher d = dispatchers.get(number);
        int server = take(d);
        boolean someIdle = false;
        for (int s : candidates()) {
            someIdle |= queue(s).isEmpty();
        }
        Job j = new Job();
        j.missed = someIdle && !queue(server).isEmpty();
        j.server = server;
        j.left = size;
        j.came = ticks;
        j.began = queue(server).isEmpty() ? ticks : -1;
        jobs.add(j);
        leave(server);
        return server;
    }

    private int take(Dispatcher d) {
        List<Integer> c = candidates();
        switch (d.policy) {
            case 1: {
                int s = inTurn(d, c);
                d.pointer = s + 1;
                return s;
            }
            case 2: {
                int s = c.get(draw(c.size()));
                int t = c.get(draw(c.size()));
                return queue(s).size() <= queue(t).size() ? s : t;
            }
            case 3:
                return d.idle.isEmpty() ? c.get(draw(c.size())) : d.idle.remove(0);
            case 4: {
                int s = looksShortest(d, c);
                d.table.set(s, d.table.get(s) + 1);
                return s;
            }
            default:
                return c.get(draw(c.size()));
        }
    }

    private static int inTurn(Dispatcher d, List<Integer> c) {
        return c.stream().filter(s -> s >= d.pointer).findFirst().orElse(c.get(0));
    }

    private static int looksShortest(Dispatcher d, List<Integer> c) {
        int best = c.get(0);
        for (int s : c) {
            best = d.table.get(s) < d.table.get(best) ? s : best;
        }
        return best;
    }

    private int tick(int n) {
        int before = finished();
        for (int i = 0; i < n; i++) {
            ticks++;
            for (int s = 0; s < up.size(); s++) {
                serve(s);
            }
            if (ticks % period == 0) {
                for (Dispatcher d : dispatchers) {
                    for (int s = 0; s < up.size(); s++) {
                        d.table.set(s, queue(s).size());
                    }
                }
            }
        }
        return finished() - before;
    }

    private void serve(int server) {
        List<Job> q = queue(server);
        if (q.isEmpty()) {
            return;
        }
        Job first = q.get(0);
        first.left--;
        if (first.left > 0) {
            return;
        }
        first.done = true;
        if (q.size() > 1) {
            q.get(1).began = ticks;
        } else if (up.get(server)) {
            register(server);
        }
    }

    private int expected(int number, int part) {
        Dispatcher d = dispatchers.get(number);
        List<Integer> c = candidates();
        List<Integer> taken = new ArrayList<>();
        if (d.policy == 1) {
            taken.add(inTurn(d, c));
        } else if (d.policy == 4) {
            taken.add(looksShortest(d, c));
        } else if (d.policy == 3 && !d.idle.isEmpty()) {
            taken.add(d.idle.get(0));
        } else if (d.policy == 2) {
            for (int s : c) {
                for (int t : c) {
                    taken.add(queue(s).size() <= queue(t).size() ? s : t);
                }
            }
        } else {
            taken.addAll(c);
        }
        BigInteger sum = BigInteger.valueOf(taken.stream().mapToInt(s -> queue(s).size()).sum());
        BigInteger count = BigInteger.valueOf(taken.size());
        return (part == 0 ? sum : count).divide(sum.gcd(count)).intValueExact();
    }

    private long digest() {
        List<Long> v = new ArrayList<>();
        v.add((long) ticks);
        v.add(x.longValueExact());
        v.add((long) mode);
        v.add((long) period);
        v.add((long) up.size());
        for (int s = 0; s < up.size(); s++) {
            v.add(up.get(s) ? 1L : 0L);
            v.add((long) queue(s).size());
            v.add((long) work(s));
            v.add((long) registeredAt(s));
        }
        v.add((long) dispatchers.size());
        for (Dispatcher d : dispatchers) {
            v.add((long) d.policy);
            v.add((long) d.pointer);
            v.add((long) d.idle.size());
            d.idle.forEach(s -> v.add((long) s));
            d.table.forEach(l -> v.add((long) l));
        }
        v.add((long) jobs.size());
        v.add((long) finished());
        v.add((long) waits());
        v.add((long) missed());
        v.add((long) savedStates.size());
        long h = 2753;
        for (long one : v) {
            h = 31 * h + one;
        }
        return h;
    }

    private Model copy() {
        Model c = new Model(savedStates);
        c.ticks = ticks;
        c.x = x;
        c.mode = mode;
        c.period = period;
        c.up.addAll(up);
        for (Dispatcher d : dispatchers) {
            Dispatcher e = new Dispatcher();
            e.policy = d.policy;
            e.pointer = d.pointer;
            e.idle.addAll(d.idle);
            e.table.addAll(d.table);
            c.dispatchers.add(e);
        }
        jobs.forEach(j -> c.jobs.add(j.copy()));
        return c;
    }
}
