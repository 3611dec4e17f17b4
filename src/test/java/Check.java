import java.util.concurrent.Callable;

/** Counts the answers that are not as due; each test has one of its own. */
final class Check {
    private int wrong = 0;
    private int seen = 0;
    private String test = "";

    /** The test whose answers follow; it is named where one is not as due. */
    void begin(String name) {
        test = name + ": ";
    }

    void due(String call, long got, long want) {
        note(call, got == want, got, want);
    }

    void due(String call, double got, double want) {
        note(call, Double.compare(got, want) == 0, got, want);
    }

    void due(String call, boolean got, boolean want) {
        note(call, got == want, got, want);
    }

    void due(String call, String got, String want) {
        note(call, got.equals(want), got, want);
    }

    /** The exact class counts: NumberFormatException is no IllegalArgumentException here. */
    void illegalArgument(String call, Callable<?> body) {
        due(call, answer(body), "throws.IllegalArgumentException");
    }

    void illegalState(String call, Callable<?> body) {
        due(call, answer(body), "throws.IllegalStateException");
    }

    void outOfBounds(String call, Callable<?> body) {
        due(call, answer(body), "throws.IndexOutOfBoundsException");
    }

    /** What the call answers, as text; an exception as throws.Name. */
    static String answer(Callable<?> body) {
        try {
            return String.valueOf(body.call());
        } catch (Exception e) {
            return "throws." + e.getClass().getSimpleName();
        }
    }

    void end() {
        System.out.println(seen + " answers, " + wrong + " of them not as due");
        if (wrong != 0 || seen == 0) {
            System.exit(1);
        }
    }

    private void note(String call, boolean right, Object got, Object want) {
        seen++;
        if (!right) {
            wrong++;
            System.out.println(test + call + " answered " + got + ", due is " + want);
        }
    }
}
