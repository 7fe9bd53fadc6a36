import java.util.ArrayList;
import java.util.Comparator;
import java.util.List;
import java.util.NoSuchElementException;
import java.util.Random;

/** Long random runs of calls beside a second model, written from the document with lists of objects. */
public final class ModelTest {
    private static final int RUNS = 600;
    private static final int CALLS_OF_A_RUN = 512;

    public static void main(String[] args) {
        for (int run = 0; run < RUNS; run++) {
            tryRun(new Random(run), run);
        }
        Due.end();
    }

    private static void tryRun(Random random, int run) {
        int levels = random.nextInt(24) - 1;
        LiftRows2 x = new LiftRows2(levels);
        Model model = new Model(levels);
        // Some runs are full of wrong inputs, some have none, so that both the refusals and the lifts are met.
        int wrongOfHundred = run % 4 == 0 ? 30 : run % 4 == 1 ? 5 : 0;
        for (int i = 0; i < CALLS_OF_A_RUN; i++) {
            int[] a = {random.nextInt(100), 0, 0, 0, 0};
            for (int j = 1; j < a.length; j++) {
                a[j] = random.nextInt(100) < wrongOfHundred ? random.nextInt(60) - 5 : -1000;
            }
            choose(a, random, model);
            String want = Due.told(() -> ask(model, a));
            String got = Due.told(() -> ask(x, a));
            Due.same("run " + run + ", call " + i + " " + java.util.Arrays.toString(a), want, got);
        }
    }

    /** Fills in fitting numbers where no wrong one was drawn. */
    private static void choose(int[] a, Random random, Model m) {
        int lift = random.nextInt(Math.max(1, m.lifts.size()));
        int call = random.nextInt(Math.max(1, m.calls.size()));
        int from = random.nextInt(m.levels);
        int to = (from + 1 + random.nextInt(m.levels - 1)) % m.levels;
        int[][] fitting = {
            {from, 1 + random.nextInt(50)},
            {from, to, 1 + random.nextInt(3), 1 + random.nextInt(random.nextBoolean() ? 8 : 50)},
            {random.nextInt(20) == 0 ? random.nextInt(201) : random.nextInt(6)},
            {random.nextInt(Math.max(1, m.events.size())), random.nextInt(4)},
            {lift}, {lift, random.nextInt(8)}, {lift, random.nextInt(2)}, {lift, random.nextInt(2)},
            {lift, random.nextInt(2)}, {}, {call}, {call}, {lift},
            {call, random.nextInt(Math.max(1, m.calls.size()))}, {call, random.nextInt(6)}, {random.nextInt(11) - 1},
        };
        a[0] = KINDS[a[0]];
        for (int j = 0; j < 4; j++) {
            if (a[j + 1] == -1000) {
                a[j + 1] = j < fitting[a[0]].length ? fitting[a[0]][j] : 0;
            }
        }
    }

    private static final int[] KINDS = new int[100];

    static {
        int[] parts = {3, 10, 22, 8, 5, 14, 7, 3, 4, 2, 3, 3, 4, 3, 5, 4};
        int at = 0;
        for (int kind = 0; kind < parts.length; kind++) {
            for (int i = 0; i < parts[kind]; i++) {
                KINDS[at++] = kind;
            }
        }
    }

    private static long ask(LiftRows2 x, int[] a) {
        switch (a[0]) {
            case 0: return x.lift(a[1], a[2]);
            case 1: return x.call(a[1], a[2], a[3], a[4]);
            case 2: return x.step(a[1]);
            case 3: return x.event(a[1], a[2]);
            case 4: return x.level(a[1]);
            case 5: return x.told(a[1], a[2]);
            case 6: x.door(a[1], a[2] == 1); return 0;
            case 7: return x.stuck(a[1], a[2] == 1);
            case 8: return x.reserved(a[1], a[2] == 1);
            case 9: return x.freed();
            case 10: return x.served(a[1]);
            case 11: return x.waits(a[1]);
            case 12: return x.least(a[1]);
            case 13: return x.joins(a[1], a[2]) ? 1 : 0;
            case 14: return x.known(a[1], a[2]);
            default: return x.count(a[1]);
        }
    }

    private static long ask(Model x, int[] a) {
        switch (a[0]) {
            case 0: return x.lift(a[1], a[2]);
            case 1: return x.call(a[1], a[2], a[3], a[4]);
            case 2: return x.step(a[1]);
            case 3: return x.event(a[1], a[2]);
            case 4: return x.level(a[1]);
            case 5: return x.told(a[1], a[2]);
            case 6: x.door(a[1], a[2] == 1); return 0;
            case 7: return x.stuck(a[1], a[2] == 1);
            case 8: return x.reserved(a[1], a[2] == 1);
            case 9: return x.freed();
            case 10: return x.theCall(a[1]).served;
            case 11: return x.waits(a[1]);
            case 12: return x.least(a[1]);
            case 13: return x.joins(a[1], a[2]) ? 1 : 0;
            case 14: return x.known(a[1], a[2]);
            default: return x.count(a[1]);
        }
    }

    private static final class Lift {
        int level;
        int capacity;
        int direction;
        int open;
        int gone;
        boolean stuck;
        boolean reserved;
        boolean kept;
        final List<Call> aboard = new ArrayList<>();

        int load() {
            return aboard.stream().mapToInt(c -> c.load).sum();
        }
    }

    private static final class Call {
        int number;
        int from;
        int to;
        int rank;
        int load;
        int state;
        int came;
        int boarded;
        int served = -1;
        Lift lift;
    }

    private static final class Model {
        final int levels;
        final List<Lift> lifts = new ArrayList<>();
        final List<Call> calls = new ArrayList<>();
        final List<int[]> events = new ArrayList<>();
        int time;

        Model(int levels) {
            this.levels = levels < 2 ? 2 : levels > 20 ? 20 : levels;
        }

        static void within(int number, int first, int last) {
            if (number < first || number > last) {
                throw new IllegalArgumentException();
            }
        }

        Lift theLift(int i) {
            if (i < 0 || i >= lifts.size()) {
                throw new NoSuchElementException();
            }
            return lifts.get(i);
        }

        Call theCall(int i) {
            if (i < 0 || i >= calls.size()) {
                throw new NoSuchElementException();
            }
            return calls.get(i);
        }

        int lift(int level, int capacity) {
            within(level, 0, levels - 1);
            within(capacity, 1, 50);
            if (lifts.size() == 4) {
                throw new UnsupportedOperationException();
            }
            Lift lift = new Lift();
            lift.level = level;
            lift.capacity = capacity;
            lifts.add(lift);
            return lifts.size() - 1;
        }

        int call(int from, int to, int rank, int load) {
            within(from, 0, levels - 1);
            within(to, 0, levels - 1);
            within(rank, 1, 3);
            within(load, 1, 50);
            if (from == to) {
                throw new IllegalArgumentException();
            }
            if (calls.size() == 24) {
                throw new UnsupportedOperationException();
            }
            Call call = new Call();
            call.number = calls.size();
            call.from = from;
            call.to = to;
            call.rank = rank;
            call.load = load;
            call.came = time;
            calls.add(call);
            give(call);
            return call.number;
        }

        void give(Call call) {
            call.lift = lifts.stream().filter(l -> !l.stuck && !l.reserved && call.load <= l.capacity)
                    .min(Comparator.comparingInt(l -> Math.abs(l.level - call.from))).orElse(null);
        }

        List<Call> waitingFor(Lift lift) {
            return calls.stream().filter(c -> c.state == 0 && c.lift == lift).toList();
        }

        int step(int seconds) {
            within(seconds, 0, 200);
            int before = events.size();
            for (int i = 0; i < seconds; i++) {
                time++;
                lifts.stream().filter(l -> !l.stuck).forEach(this::second);
            }
            return events.size() - before;
        }

        void second(Lift lift) {
            List<Call> out = lift.aboard.stream().filter(c -> c.to == lift.level).toList();
            int staying = lift.load() - out.stream().mapToInt(c -> c.load).sum();
            List<Call> here = waitingFor(lift).stream().filter(c -> c.from == lift.level)
                    .sorted(Comparator.comparingInt(c -> c.rank)).toList();
            if (lift.open > 0) {
                lift.open--;
                if (lift.kept && lift.open < 1) {
                    lift.open = 1;
                }
            } else if (!out.isEmpty() || here.stream().anyMatch(c -> c.load + staying <= lift.capacity)) {
                exchange(lift, out, here);
            } else {
                travel(lift);
            }
        }

        void exchange(Lift lift, List<Call> out, List<Call> here) {
            for (Call call : out.stream().sorted(Comparator.comparingInt(c -> c.number)).toList()) {
                lift.aboard.remove(call);
                call.state = 2;
                call.served = time;
                events.add(new int[] {time, lifts.indexOf(lift), call.number, 1});
            }
            for (Call call : here) {
                if (lift.load() + call.load <= lift.capacity) {
                    lift.aboard.add(call);
                    call.state = 1;
                    call.boarded = time;
                    events.add(new int[] {time, lifts.indexOf(lift), call.number, 0});
                }
            }
            lift.open = 3;
        }

        void travel(Lift lift) {
            List<Integer> work = new ArrayList<>();
            lift.aboard.forEach(c -> work.add(c.to));
            waitingFor(lift).forEach(c -> work.add(c.from));
            work.removeIf(w -> w == lift.level);
            if (work.isEmpty()) {
                lift.direction = 0;
                return;
            }
            boolean above = work.stream().anyMatch(w -> w > lift.level);
            boolean below = work.stream().anyMatch(w -> w < lift.level);
            if (lift.direction == 0) {
                lift.direction = above ? 1 : -1;
            } else if (lift.direction == 1 && !above) {
                lift.direction = -1;
            } else if (lift.direction == -1 && !below) {
                lift.direction = 1;
            }
            lift.level += lift.direction;
            lift.gone++;
        }

        int event(int i, int what) {
            if (i < 0 || i >= events.size()) {
                throw new NoSuchElementException();
            }
            within(what, 0, 3);
            return events.get(i)[what];
        }

        int level(int i) {
            if (i < 0 || i > 3) {
                throw new ArrayIndexOutOfBoundsException();
            }
            return theLift(i).level;
        }

        int told(int i, int what) {
            Lift lift = theLift(i);
            within(what, 0, 7);
            return new int[] {lift.load(), lift.direction, lift.open, lift.aboard.size(), waitingFor(lift).size(),
                lift.stuck ? 1 : 0, lift.reserved ? 1 : 0, lift.kept ? 1 : 0}[what];
        }

        static void changes(boolean now, boolean wanted) {
            if (now == wanted) {
                throw new IllegalStateException();
            }
        }

        void door(int i, boolean kept) {
            Lift lift = theLift(i);
            changes(lift.kept, kept);
            if (kept && lift.open == 0) {
                throw new IllegalStateException();
            }
            lift.kept = kept;
        }

        int stuck(int i, boolean on) {
            Lift lift = theLift(i);
            changes(lift.stuck, on);
            lift.stuck = on;
            if (on) {
                waitingFor(lift).forEach(this::give);
            }
            return lift.aboard.size();
        }

        int reserved(int i, boolean on) {
            Lift lift = theLift(i);
            changes(lift.reserved, on);
            lift.reserved = on;
            return lift.aboard.size() + waitingFor(lift).size();
        }

        int freed() {
            List<Call> free = waitingFor(null);
            free.forEach(this::give);
            return (int) free.stream().filter(c -> c.lift != null).count();
        }

        int waits(int i) {
            Call call = theCall(i);
            return (call.state == 0 ? time : call.boarded) - call.came;
        }

        int least(int i) {
            Lift lift = theLift(i);
            List<Call> waiting = new ArrayList<>(waitingFor(lift));
            List<Call> aboard = new ArrayList<>(lift.aboard);
            return waiting.size() + aboard.size() > 4 ? -1 : way(lift.level, waiting, aboard);
        }

        int way(int at, List<Call> waiting, List<Call> aboard) {
            int best = waiting.isEmpty() && aboard.isEmpty() ? 0 : Integer.MAX_VALUE;
            for (Call call : waiting) {
                List<Call> others = new ArrayList<>(waiting);
                List<Call> more = new ArrayList<>(aboard);
                others.remove(call);
                more.add(call);
                best = Math.min(best, Math.abs(call.from - at) + way(call.from, others, more));
            }
            for (Call call : aboard) {
                List<Call> others = new ArrayList<>(aboard);
                others.remove(call);
                best = Math.min(best, Math.abs(call.to - at) + way(call.to, waiting, others));
            }
            return best;
        }

        boolean joins(int i, int j) {
            Call call = theCall(i);
            Call other = theCall(j);
            if (call.state != 0 || other.state != 0) {
                throw new IllegalStateException();
            }
            return call.from == other.from && call.to == other.to;
        }

        int known(int i, int what) {
            Call call = theCall(i);
            within(what, 0, 5);
            return new int[] {call.state, lifts.indexOf(call.lift), call.from, call.to, call.rank, call.load}[what];
        }

        int count(int what) {
            List<Call> waiting = calls.stream().filter(c -> c.state == 0).toList();
            int set = waiting.stream().mapToInt(c -> 1 << c.from).reduce(0, (a, b) -> a | b);
            int gone = lifts.stream().mapToInt(l -> l.gone).sum();
            int[] counts = {levels, lifts.size(), calls.size(), events.size(), time, waiting.size(),
                waitingFor(null).size(), set, gone};
            return what < 0 || what > 8 ? -1 : counts[what];
        }
    }
}
