import java.util.NoSuchElementException;

/** Lifts of a warehouse. What each call promises stands in the document, DOC.md. */
public final class LiftRows2 {
    private static final int FEWEST_LEVELS = 2;
    private static final int MOST_LEVELS = 20;
    private static final int MOST_LIFTS = 4;
    private static final int MOST_CALLS = 24;
    private static final int MOST_EVENTS = 2 * MOST_CALLS;
    private static final int MOST_LOAD = 50;
    private static final int LAST_RANK = 3;
    private static final int MOST_SECONDS = 200;
    private static final int OPEN_SECONDS = 3;
    private static final int MOST_TRIED = 4;
    private static final int MOST_STOPS = 2 * MOST_TRIED;

    private static final int NONE = -1;
    private static final int UP = 1;
    private static final int DOWN = -1;

    private static final int WAITING = 0;
    private static final int ABOARD = 1;
    private static final int SERVED = 2;

    private static final int CAME_ABOARD = 0;
    private static final int WAS_SERVED = 1;

    private final int levels;
    private final Lifts lifts;
    private final Calls calls;
    private final Events events;
    private int time;

    public LiftRows2(int levels) {
        this.levels = Math.max(FEWEST_LEVELS, Math.min(MOST_LEVELS, levels));
        this.lifts = new Lifts();
        this.calls = new Calls();
        this.events = new Events();
        this.time = 0;
    }

    public int lift(int level, int capacity) throws IllegalArgumentException, UnsupportedOperationException {
        refuseOutside(level, 0, levels - 1);
        refuseOutside(capacity, 1, MOST_LOAD);
        if (lifts.size >= MOST_LIFTS) {
            throw new UnsupportedOperationException("no room for another lift");
        }
        return lifts.add(level, capacity);
    }

    public int call(int from, int to, int rank, int load)
            throws IllegalArgumentException, UnsupportedOperationException {
        refuseOutside(from, 0, levels - 1);
        refuseOutside(to, 0, levels - 1);
        refuseOutside(rank, 1, LAST_RANK);
        refuseOutside(load, 1, MOST_LOAD);
        if (from == to) {
            throw new IllegalArgumentException("from a level to itself");
        }
        if (calls.size >= MOST_CALLS) {
            throw new UnsupportedOperationException("no room for another call");
        }
        int call = calls.add(from, to, rank, load, time);
        calls.by[call] = nearestLift(from, load);
        return call;
    }

    public int step(int seconds) throws IllegalArgumentException {
        refuseOutside(seconds, 0, MOST_SECONDS);
        int before = events.size;
        for (int second = 0; second < seconds; second++) {
            passSecond();
        }
        return events.size - before;
    }

    public int event(int i, int what) throws NoSuchElementException, IllegalArgumentException {
        if (i < 0 || i >= events.size) {
            throw new NoSuchElementException("no such event");
        }
        refuseOutside(what, 0, 3);
        switch (what) {
            case 0:
                return events.second[i];
            case 1:
                return events.lift[i];
            case 2:
                return events.call[i];
            default:
                return events.kind[i];
        }
    }

    public int level(int lift) throws NoSuchElementException, ArrayIndexOutOfBoundsException {
        // The document names this class here, so it is thrown by hand: the machine must not throw it.
        if (lift < 0 || lift >= MOST_LIFTS) {
            throw new ArrayIndexOutOfBoundsException("no such lift among those that there may be");
        }
        refuseNoLift(lift);
        return lifts.at[lift];
    }

    public int told(int lift, int what) throws NoSuchElementException, IllegalArgumentException {
        refuseNoLift(lift);
        refuseOutside(what, 0, 7);
        switch (what) {
            case 0:
                return calls.loadAboard(lift);
            case 1:
                return lifts.direction[lift];
            case 2:
                return lifts.openFor[lift];
            case 3:
                return calls.number(ABOARD, lift);
            case 4:
                return calls.number(WAITING, lift);
            case 5:
                return asNumber(lifts.isStuck[lift]);
            case 6:
                return asNumber(lifts.isReserved[lift]);
            default:
                return asNumber(lifts.isKept[lift]);
        }
    }

    public void door(int lift, boolean kept) throws NoSuchElementException, IllegalStateException {
        refuseNoLift(lift);
        refuseUnchanged(lifts.isKept[lift], kept);
        if (kept && lifts.openFor[lift] == 0) {
            throw new IllegalStateException("the door is shut");
        }
        lifts.isKept[lift] = kept;
    }

    public int stuck(int lift, boolean on) throws NoSuchElementException, IllegalStateException {
        refuseNoLift(lift);
        refuseUnchanged(lifts.isStuck[lift], on);
        lifts.isStuck[lift] = on;
        if (on) {
            giveAnew(lift);
        }
        return calls.number(ABOARD, lift);
    }

    public int reserved(int lift, boolean on) throws NoSuchElementException, IllegalStateException {
        refuseNoLift(lift);
        refuseUnchanged(lifts.isReserved[lift], on);
        lifts.isReserved[lift] = on;
        return calls.number(ABOARD, lift) + calls.number(WAITING, lift);
    }

    public int freed() {
        return giveAnew(NONE);
    }

    public int served(int call) throws NoSuchElementException {
        refuseNoCall(call);
        return calls.servedAt[call];
    }

    public int waits(int call) throws NoSuchElementException {
        refuseNoCall(call);
        int end = calls.state[call] == WAITING ? time : calls.boardedAt[call];
        return end - calls.cameAt[call];
    }

    public int least(int lift) throws NoSuchElementException {
        refuseNoLift(lift);
        int waiting = calls.setOf(WAITING, lift);
        int aboard = calls.setOf(ABOARD, lift);
        if (Integer.bitCount(waiting | aboard) > MOST_TRIED) {
            return -1;
        }
        return leastWay(calls, lifts.at[lift], waiting, aboard, 0);
    }

    public boolean joins(int call, int other) throws NoSuchElementException, IllegalStateException {
        refuseNoCall(call);
        refuseNoCall(other);
        if (calls.state[call] != WAITING || calls.state[other] != WAITING) {
            throw new IllegalStateException("one of them is not waiting");
        }
        return calls.from[call] == calls.from[other] && calls.to[call] == calls.to[other];
    }

    public int known(int call, int what) throws NoSuchElementException, IllegalArgumentException {
        refuseNoCall(call);
        refuseOutside(what, 0, 5);
        switch (what) {
            case 0:
                return calls.state[call];
            case 1:
                return calls.by[call];
            case 2:
                return calls.from[call];
            case 3:
                return calls.to[call];
            case 4:
                return calls.rank[call];
            default:
                return calls.load[call];
        }
    }

    public int count(int what) {
        switch (what) {
            case 0:
                return levels;
            case 1:
                return lifts.size;
            case 2:
                return calls.size;
            case 3:
                return events.size;
            case 4:
                return time;
            case 5:
                return calls.numberWaiting();
            case 6:
                return calls.number(WAITING, NONE);
            case 7:
                return calls.levelsWithWaiting();
            case 8:
                return lifts.gone;
            default:
                return -1;
        }
    }

    private static void refuseOutside(int number, int first, int last) {
        if (number < first || number > last) {
            throw new IllegalArgumentException("a number outside its range");
        }
    }

    private static void refuseUnchanged(boolean now, boolean wanted) {
        if (now == wanted) {
            throw new IllegalStateException("it is so");
        }
    }

    private void refuseNoLift(int lift) {
        if (lift < 0 || lift >= lifts.size) {
            throw new NoSuchElementException("no such lift");
        }
    }

    private void refuseNoCall(int call) {
        if (call < 0 || call >= calls.size) {
            throw new NoSuchElementException("no such call");
        }
    }

    private static int asNumber(boolean holds) {
        return holds ? 1 : 0;
    }

    private int nearestLift(int from, int load) {
        int nearest = NONE;
        int shortest = MOST_LEVELS;
        for (int lift = 0; lift < lifts.size; lift++) {
            int way = Math.abs(lifts.at[lift] - from);
            if (lifts.mayGet(lift, load) && way < shortest) {
                nearest = lift;
                shortest = way;
            }
        }
        return nearest;
    }

    /** Gives the waiting calls of a lift (or of none) as if they came now: how many found a lift. */
    private int giveAnew(int lift) {
        int found = 0;
        for (int call = 0; call < calls.size; call++) {
            if (calls.is(call, WAITING, lift)) {
                calls.by[call] = nearestLift(calls.from[call], calls.load[call]);
                found += asNumber(calls.by[call] != NONE);
            }
        }
        return found;
    }

    private void passSecond() {
        time++;
        for (int lift = 0; lift < lifts.size; lift++) {
            if (!lifts.isStuck[lift]) {
                doOneThing(lift);
            }
        }
    }

    private void doOneThing(int lift) {
        if (lifts.openFor[lift] > 0) {
            lifts.passOpenSecond(lift);
        } else if (opensHere(lift)) {
            letOut(lift);
            letIn(lift);
            lifts.openFor[lift] = OPEN_SECONDS;
        } else {
            boolean above = calls.hasWork(lift, lifts.at[lift], UP);
            boolean below = calls.hasWork(lift, lifts.at[lift], DOWN);
            lifts.go(lift, above, below);
        }
    }

    private boolean opensHere(int lift) {
        int here = lifts.at[lift];
        int room = lifts.capacity[lift] - calls.loadStaying(lift, here);
        for (int call = 0; call < calls.size; call++) {
            if (calls.getsOut(call, lift, here) || calls.fitsIn(call, lift, here, room)) {
                return true;
            }
        }
        return false;
    }

    private void letOut(int lift) {
        for (int call = 0; call < calls.size; call++) {
            if (calls.getsOut(call, lift, lifts.at[lift])) {
                calls.state[call] = SERVED;
                calls.servedAt[call] = time;
                events.add(time, lift, call, WAS_SERVED);
            }
        }
    }

    private void letIn(int lift) {
        int room = lifts.capacity[lift] - calls.loadAboard(lift);
        for (int rank = 1; rank <= LAST_RANK; rank++) {
            for (int call = 0; call < calls.size; call++) {
                if (calls.rank[call] == rank && calls.fitsIn(call, lift, lifts.at[lift], room)) {
                    calls.state[call] = ABOARD;
                    calls.boardedAt[call] = time;
                    events.add(time, lift, call, CAME_ABOARD);
                    room -= calls.load[call];
                }
            }
        }
    }

    /**
     * The sets hold calls as bits. On the way to a farther stop a lift passes the nearest one on that side,
     * so only the nearest above and the nearest below need trying.
     */
    private static int leastWay(Calls calls, int at, int waiting, int aboard, int depth) {
        int stillWaiting = waiting & ~calls.setFrom(at);
        int fetched = waiting & ~stillWaiting;
        int stillAboard = (aboard | fetched) & ~calls.setTo(at);
        // Each stop ends one of the stops to come, so the depth's bound cuts nothing off.
        if ((stillWaiting | stillAboard) == 0 || depth >= MOST_STOPS) {
            return 0;
        }
        int above = calls.nearestStop(at, UP, stillWaiting, stillAboard);
        int below = calls.nearestStop(at, DOWN, stillWaiting, stillAboard);
        int byUp = above == NONE ? Integer.MAX_VALUE
                : above - at + leastWay(calls, above, stillWaiting, stillAboard, depth + 1);
        int byDown = below == NONE ? Integer.MAX_VALUE
                : at - below + leastWay(calls, below, stillWaiting, stillAboard, depth + 1);
        return Math.min(byUp, byDown);
    }

    /** The lifts, a row for each thing that is told of them. */
    private static final class Lifts {
        private final int[] at = new int[MOST_LIFTS];
        private final int[] capacity = new int[MOST_LIFTS];
        private final int[] direction = new int[MOST_LIFTS];
        private final int[] openFor = new int[MOST_LIFTS];
        private final boolean[] isStuck = new boolean[MOST_LIFTS];
        private final boolean[] isReserved = new boolean[MOST_LIFTS];
        private final boolean[] isKept = new boolean[MOST_LIFTS];
        private int size = 0;
        private int gone = 0;

        private int add(int startAt, int mostLoad) {
            int lift = size;
            if (lift < MOST_LIFTS) {
                at[lift] = startAt;
                capacity[lift] = mostLoad;
                size++;
            }
            return lift;
        }

        private boolean mayGet(int lift, int load) {
            return !isStuck[lift] && !isReserved[lift] && capacity[lift] >= load;
        }

        private void passOpenSecond(int lift) {
            int fewest = isKept[lift] ? 1 : 0;
            openFor[lift] = Math.max(fewest, openFor[lift] - 1);
        }

        private void go(int lift, boolean above, boolean below) {
            boolean goesOnDown = direction[lift] == DOWN && below;
            if (above && !goesOnDown) {
                direction[lift] = UP;
            } else if (below) {
                direction[lift] = DOWN;
            } else {
                direction[lift] = 0;
            }
            at[lift] += direction[lift];
            gone += Math.abs(direction[lift]);
        }
    }

    /** The calls, a row for each thing that is known of them. */
    private static final class Calls {
        private final int[] from = new int[MOST_CALLS];
        private final int[] to = new int[MOST_CALLS];
        private final int[] rank = new int[MOST_CALLS];
        private final int[] load = new int[MOST_CALLS];
        private final int[] state = new int[MOST_CALLS];
        private final int[] by = new int[MOST_CALLS];
        private final int[] cameAt = new int[MOST_CALLS];
        private final int[] boardedAt = new int[MOST_CALLS];
        private final int[] servedAt = new int[MOST_CALLS];
        private int size = 0;

        private int add(int first, int last, int itsRank, int itsLoad, int second) {
            int call = size;
            if (call < MOST_CALLS) {
                from[call] = first;
                to[call] = last;
                rank[call] = itsRank;
                load[call] = itsLoad;
                state[call] = WAITING;
                by[call] = NONE;
                cameAt[call] = second;
                boardedAt[call] = NONE;
                servedAt[call] = NONE;
                size++;
            }
            return call;
        }

        private boolean is(int call, int inState, int lift) {
            return state[call] == inState && by[call] == lift;
        }

        private boolean getsOut(int call, int lift, int here) {
            return is(call, ABOARD, lift) && to[call] == here;
        }

        private boolean fitsIn(int call, int lift, int here, int room) {
            return is(call, WAITING, lift) && from[call] == here && load[call] <= room;
        }

        private int number(int inState, int lift) {
            return Integer.bitCount(setOf(inState, lift));
        }

        private int setOf(int inState, int lift) {
            int set = 0;
            for (int call = 0; call < size; call++) {
                if (is(call, inState, lift)) {
                    set |= 1 << call;
                }
            }
            return set;
        }

        private int setFrom(int here) {
            int set = 0;
            for (int call = 0; call < size; call++) {
                if (from[call] == here) {
                    set |= 1 << call;
                }
            }
            return set;
        }

        private int setTo(int here) {
            int set = 0;
            for (int call = 0; call < size; call++) {
                if (to[call] == here) {
                    set |= 1 << call;
                }
            }
            return set;
        }

        private int loadAboard(int lift) {
            return loadStaying(lift, NONE);
        }

        private int loadStaying(int lift, int here) {
            int sum = 0;
            for (int call = 0; call < size; call++) {
                if (is(call, ABOARD, lift) && to[call] != here) {
                    sum += load[call];
                }
            }
            return sum;
        }

        private int numberWaiting() {
            int number = 0;
            for (int call = 0; call < size; call++) {
                number += asNumber(state[call] == WAITING);
            }
            return number;
        }

        private int levelsWithWaiting() {
            int set = 0;
            for (int call = 0; call < size; call++) {
                if (state[call] == WAITING) {
                    set |= 1 << from[call];
                }
            }
            return set;
        }

        private boolean hasWork(int lift, int at, int side) {
            return nearestStop(at, side, setOf(WAITING, lift), setOf(ABOARD, lift)) != NONE;
        }

        /** The nearest level above (or below) where one of the waiting is or to which one aboard wants. */
        private int nearestStop(int at, int side, int waiting, int aboard) {
            int nearest = NONE;
            int shortest = MOST_LEVELS;
            for (int call = 0; call < size; call++) {
                boolean isWaiting = (waiting >> call & 1) == 1;
                boolean isAboard = (aboard >> call & 1) == 1;
                int stop = isWaiting ? from[call] : to[call];
                int way = (stop - at) * side;
                if ((isWaiting || isAboard) && way > 0 && way < shortest) {
                    nearest = stop;
                    shortest = way;
                }
            }
            return nearest;
        }
    }

    /** The events in their order; a call has at most two. */
    private static final class Events {
        private final int[] second = new int[MOST_EVENTS];
        private final int[] lift = new int[MOST_EVENTS];
        private final int[] call = new int[MOST_EVENTS];
        private final int[] kind = new int[MOST_EVENTS];
        private int size = 0;

        private void add(int itsSecond, int itsLift, int itsCall, int itsKind) {
            if (size < MOST_EVENTS) {
                second[size] = itsSecond;
                lift[size] = itsLift;
                call[size] = itsCall;
                kind[size] = itsKind;
                size++;
            }
        }
    }
}
