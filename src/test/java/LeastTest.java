import java.util.Random;

/** Promise 14 beside a trying of every order of the stops. */
public final class LeastTest {
    public static void main(String[] args) {
        Random random = new Random(14);
        for (int round = 0; round < 3000; round++) {
            tryRound(random, round);
        }
        Due.end();
    }

    private static void tryRound(Random random, int round) {
        int levels = 2 + random.nextInt(19);
        LiftRows2 x = new LiftRows2(levels);
        x.lift(random.nextInt(levels), 50);
        int number = random.nextInt(6);
        for (int i = 0; i < number; i++) {
            int from = random.nextInt(levels);
            int to = (from + 1 + random.nextInt(levels - 1)) % levels;
            x.call(from, to, 1, 1 + random.nextInt(50));
        }
        for (int i = 0; i < 12; i++) {
            Due.is("least in round " + round, allOrders(x), x.least(0));
            x.step(random.nextInt(5));
        }
    }

    private static int allOrders(LiftRows2 x) {
        int[] state = new int[x.count(2)];
        int open = 0;
        for (int call = 0; call < state.length; call++) {
            state[call] = x.known(call, 0);
            open += state[call] == 2 ? 0 : 1;
        }
        return open > 4 ? -1 : bestFrom(x, x.level(0), state);
    }

    private static int bestFrom(LiftRows2 x, int at, int[] state) {
        int best = Integer.MAX_VALUE;
        for (int call = 0; call < state.length; call++) {
            if (state[call] < 2) {
                int stop = x.known(call, state[call] == 0 ? 2 : 3);
                state[call]++;
                best = Math.min(best, Math.abs(stop - at) + bestFrom(x, stop, state));
                state[call]--;
            }
        }
        return best == Integer.MAX_VALUE ? 0 : best;
    }
}
