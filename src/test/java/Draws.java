import java.math.BigInteger;

/** The random sequence of the document, told a second time in numbers without a bound. */
final class Draws {
    private static final BigInteger FACTOR = BigInteger.valueOf(1103515245);
    private static final BigInteger STEP = BigInteger.valueOf(12345);
    private static final BigInteger MODULUS = new BigInteger("2147483648");
    private static final BigInteger DROPPED = BigInteger.valueOf(65536);
    private static final int LOOKED_AT = 14;
    private static final int MOST_MADE = 60;

    private BigInteger x;

    Draws(long from) {
        x = BigInteger.valueOf(from);
    }

    int next(int n) {
        x = x.multiply(FACTOR).add(STEP).mod(MODULUS);
        return x.divide(DROPPED).mod(BigInteger.valueOf(n)).intValueExact();
    }

    long state() {
        return x.longValueExact();
    }

    /** A state for setRandom from which the next draws modulo n are these. */
    static int stateBefore(int n, int... wanted) {
        for (int from = 0; from <= 999999; from++) {
            if (drawsAre(from, n, wanted)) {
                return from;
            }
        }
        throw new AssertionError("no such state");
    }

    private static boolean drawsAre(int from, int n, int[] wanted) {
        Draws d = new Draws(from);
        for (int w : wanted) {
            if (d.next(n) != w) {
                return false;
            }
        }
        return true;
    }

    /**
     * How many draws the object has made since its state was from; seen from where its
     * next random jobs go, among all the servers that are up, of which there must be two.
     */
    static int made(IdleDispatcher x, int from, int dispatcher, int... candidates) {
        x.setPolicy(dispatcher, 0);
        String taken = Start.taken(x, dispatcher, 1, LOOKED_AT);
        int found = -1;
        for (int made = MOST_MADE; made >= 0; made--) {
            if (takenAfter(from, made, candidates).equals(taken)) {
                found = made;
            }
        }
        return found;
    }

    private static String takenAfter(int from, int made, int[] candidates) {
        Draws d = new Draws(from);
        for (int i = 0; i < made; i++) {
            d.next(1);
        }
        StringBuilder servers = new StringBuilder();
        for (int i = 0; i < LOOKED_AT; i++) {
            servers.append(candidates[d.next(candidates.length)]);
        }
        return servers.toString();
    }
}
