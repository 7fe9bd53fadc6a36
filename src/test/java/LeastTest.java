import java.util.Random;

/** Promise 14 beside a trying of every order of the stops. */
public final class LeastTest {
    private static final int STATE = 0;
    private static final int FROM = 1;
    private static final int TO = 2;
    private static final int SERVED = 2;

    public static void main(String[] args) {
        Random random = new Random(14);
        for (int round = 0; round < 3000; round++) {
            tryRound(random, round);
        }
        Due.end();
    }

    private static void tryRound(Random random, int round) {
        int levels = 2 + random.nextInt(19);
        LiftRows2 x = new LiftRows2(levels);
        x.lift(random.nextInt(levels), 50);
        int number = random.nextInt(6);
        for (int i = 0; i < number; i++) {
            int from = random.nextInt(levels);
            int to = (from + 1 + random.nextInt(levels - 1)) % levels;
            x.call(from, to, 1, 1 + random.nextInt(50));
        }
        for (int i = 0; i < 12; i++) {
            Due.is("least in round " + round, allOrders(x), x.least(0));
            x.step(random.nextInt(5));
        }
    }

    /** Reads the calls once, so that the trying asks nothing of the object: it is good for 512 calls. */
    private static int allOrders(LiftRows2 x) {
        int[][] calls = new int[x.count(2)][];
        int open = 0;
        for (int call = 0; call < calls.length; call++) {
            calls[call] = new int[] {x.known(call, 0), x.known(call, 2), x.known(call, 3)};
            open += calls[call][STATE] == SERVED ? 0 : 1;
        }
        return open > 4 ? -1 : bestFrom(x.level(0), calls);
    }

    private static int bestFrom(int at, int[][] calls) {
        int best = Integer.MAX_VALUE;
        for (int[] call : calls) {
            if (call[STATE] < SERVED) {
                int stop = call[STATE] == 0 ? call[FROM] : call[TO];
                call[STATE]++;
                best = Math.min(best, Math.abs(stop - at) + bestFrom(stop, calls));
                call[STATE]--;
            }
        }
        return best == Integer.MAX_VALUE ? 0 : best;
    }
}
