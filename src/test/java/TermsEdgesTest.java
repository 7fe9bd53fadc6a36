import java.util.NoSuchElementException;

/** The sentences under "Terms" that name a boundary case, each with a test of its own. */
public final class TermsEdgesTest {
    private static final Class<IllegalArgumentException> ARGUMENT = IllegalArgumentException.class;
    private static final Class<UnsupportedOperationException> NO_ROOM = UnsupportedOperationException.class;

    public static void main(String[] args) {
        levels();
        time();
        numberOfLifts();
        capacities();
        newLift();
        numberOfCalls();
        fromLevelToAnother();
        ranksAndLoads();
        nearest();
        capacityNotBelowLoad();
        equalOnesTheLowest();
        neitherStuckNorReserved();
        elseToNone();
        givenWhenItComes();
        secondsAndLifts();
        stuckOnesDoNothing();
        oneThingASecond();
        openDoor();
        keptDoor();
        fitsOrNot();
        room();
        wantsToThisLevel();
        givenToIt();
        byRankThenNumber();
        eachThatStillFits();
        workWhetherItFits();
        goesOnInItsDirection();
        turns();
        directionFromNone();
        ends();
        directionNone();
        eventsInTheirOrder();
        fiveHundredTwelveCalls();
        Due.end();
    }

    private static void levels() {
        Due.sentence("2 .. 20 of them; fewer count as 2, more as 20");
        int[][] pairs = {{Integer.MIN_VALUE, 2}, {-20, 2}, {-1, 2}, {0, 2}, {1, 2}, {2, 2}, {3, 3}, {19, 19}, {20, 20},
            {21, 20}, {22, 20}, {258, 20}, {Integer.MAX_VALUE, 20}};
        for (int[] pair : pairs) {
            LiftRows2 x = new LiftRows2(pair[0]);
            int n = pair[1];
            Due.is("levels of " + pair[0], n, x.count(0));
            Due.is("a lift at the highest", 0, x.lift(n - 1, 1));
            Due.is("a lift at the lowest", 1, x.lift(0, 1));
            Due.refused("a lift above", ARGUMENT, () -> x.lift(n, 1));
            Due.refused("a lift below", ARGUMENT, () -> x.lift(-1, 1));
            Due.is("a call to the highest", 0, x.call(0, n - 1, 1, 1));
            Due.is("a call from the highest", 1, x.call(n - 1, 0, 1, 1));
            Due.refused("a call to one above", ARGUMENT, () -> x.call(0, n, 1, 1));
            Due.refused("a call from one above", ARGUMENT, () -> x.call(n, 0, 1, 1));
        }
    }

    private static void time() {
        Due.sentence("TIME is in seconds, 0 at first");
        LiftRows2 x = new LiftRows2(5);
        Due.is("at first", 0, x.count(4));
        x.lift(0, 1);
        x.call(0, 1, 1, 1);
        x.freed();
        Due.is("no other call makes it pass", 0, x.count(4));
        x.step(1);
        Due.is("a second", 1, x.count(4));
    }

    private static void numberOfLifts() {
        Due.sentence("LIFTS 0, 1, .. (at most 4, as they come)");
        LiftRows2 x = new LiftRows2(9);
        for (int lift = 0; lift < 4; lift++) {
            Due.is("so many", lift, x.count(1));
            Due.is("its number", lift, x.lift(8 - lift, 10));
        }
        Due.is("four", 4, x.count(1));
        for (int i = 0; i < 3; i++) {
            Due.refused("a fifth", NO_ROOM, () -> x.lift(0, 10));
        }
        Due.is("still four", 4, x.count(1));
        for (int lift = 0; lift < 4; lift++) {
            Due.is("as it came", 8 - lift, x.level(lift));
        }
    }

    private static void capacities() {
        Due.sentence("have a CAPACITY 1 .. 50");
        LiftRows2 x = new LiftRows2(9);
        Due.refused("0", ARGUMENT, () -> x.lift(0, 0));
        Due.refused("51", ARGUMENT, () -> x.lift(0, 51));
        Due.is("1", 0, x.lift(0, 1));
        Due.is("of 1 for 1", 0, givenTo(x, 0, 1));
        Due.is("of 1 not for 2", -1, givenTo(x, 0, 2));
        Due.is("50", 1, x.lift(0, 50));
        Due.is("of 50 for 50", 1, givenTo(x, 0, 50));
        Due.is("1 aboard the first, 50 aboard the other", 2, x.step(1));
        Due.is("1 aboard", 1, x.told(0, 0));
        Due.is("50 aboard", 50, x.told(1, 0));
    }

    private static int givenTo(LiftRows2 x, int from, int load) {
        return x.known(x.call(from, from == 0 ? 1 : from - 1, 1, load), 1);
    }

    private static void newLift() {
        Due.sentence("a DIRECTION (1 up, -1 down, 0 none; none at first), a DOOR that is shut");
        LiftRows2 x = Scene.withLifts(9, 4, 10);
        x.step(3);
        x.lift(8, 10);
        for (int lift = 0; lift < 2; lift++) {
            for (int what = 0; what <= 7; what++) {
                Due.is("of a new lift " + what, 0, x.told(lift, what));
            }
        }
    }

    private static void numberOfCalls() {
        Due.sentence("CALLS 0, 1, .. (at most 24)");
        LiftRows2 x = Scene.withLifts(3, 0, 50);
        for (int call = 0; call < 24; call++) {
            Due.is("so many", call, x.count(2));
            Due.is("its number", call, x.call(0, 1, 1, 2));
        }
        Due.is("24", 24, x.count(2));
        Due.refused("a 25th", NO_ROOM, () -> x.call(0, 1, 1, 2));
        Due.is("all come aboard at once", 24, x.step(1));
        Due.refused("a 25th beside those aboard", NO_ROOM, () -> x.call(0, 1, 1, 2));
        Due.is("all are served at once", 24, x.step(5));
        Due.refused("a 25th behind those served", NO_ROOM, () -> x.call(0, 1, 1, 2));
        Due.is("still 24", 24, x.count(2));
    }

    private static void fromLevelToAnother() {
        Due.sentence("from a level to another one");
        LiftRows2 x = new LiftRows2(20);
        int[][] ways = {{0, 1}, {1, 0}, {0, 19}, {19, 0}, {18, 19}, {19, 18}};
        for (int[] way : ways) {
            int call = x.call(way[0], way[1], 1, 1);
            Due.is("from", way[0], x.known(call, 2));
            Due.is("to", way[1], x.known(call, 3));
        }
        for (int level = 0; level < 20; level++) {
            int itself = level;
            Due.refused("to itself", ARGUMENT, () -> x.call(itself, itself, 1, 1));
        }
    }

    private static void ranksAndLoads() {
        Due.sentence("a rank 1 .. 3, a load 1 .. 50");
        LiftRows2 x = new LiftRows2(5);
        for (int rank = 1; rank <= 3; rank++) {
            Due.is("rank", rank, x.known(x.call(0, 1, rank, 25), 4));
        }
        Due.is("load 1", 1, x.known(x.call(0, 1, 1, 1), 5));
        Due.is("load 50", 50, x.known(x.call(0, 1, 1, 50), 5));
        for (int wrong : new int[] {0, 4}) {
            Due.refused("rank " + wrong, ARGUMENT, () -> x.call(0, 1, wrong, 25));
        }
        for (int wrong : new int[] {0, 51}) {
            Due.refused("load " + wrong, ARGUMENT, () -> x.call(0, 1, 1, wrong));
        }
        Due.is("five came", 5, x.count(2));
    }

    private static void nearest() {
        Due.sentence("to the lift nearest to its first level");
        Due.is("at its level, behind one beside it", 1, givenTo(Scene.withLifts(20, 5, 9, 6, 9), 6, 1));
        Due.is("below, nearer by one", 1, givenTo(Scene.withLifts(20, 9, 9, 4, 9), 6, 1));
        Due.is("above, nearer by one", 1, givenTo(Scene.withLifts(20, 3, 9, 8, 9), 6, 1));
        Due.is("the fourth", 3, givenTo(Scene.withLifts(20, 0, 9, 1, 9, 2, 9, 3, 9), 19, 1));
        Due.is("from the top to the bottom", 0, givenTo(Scene.withLifts(20, 19, 9), 0, 1));
        Due.is("from the bottom to the top", 0, givenTo(Scene.withLifts(20, 0, 9), 19, 1));
        LiftRows2 last = Scene.withLifts(20, 0, 9, 19, 9);
        last.call(3, 18, 1, 1);
        Due.is("its first level, not its last", 0, last.known(0, 1));
    }

    private static void capacityNotBelowLoad() {
        Due.sentence("whose capacity is not below its load");
        LiftRows2 x = Scene.withLifts(20, 5, 9, 10, 10, 15, 11);
        Due.is("below", 0, givenTo(x, 5, 8));
        Due.is("just so", 0, givenTo(x, 5, 9));
        Due.is("one above, so the next", 1, givenTo(x, 5, 10));
        Due.is("two above, so the third", 2, givenTo(x, 5, 11));
        Due.is("above all", -1, givenTo(x, 5, 12));
        x.step(1);
        Due.is("what is aboard is not asked", 0, givenTo(x, 5, 9));
    }

    private static void equalOnesTheLowest() {
        Due.sentence("of equal ones the lowest");
        Due.is("at one level", 0, givenTo(Scene.withLifts(9, 4, 9, 4, 9, 4, 9, 4, 9), 4, 1));
        Due.is("the lowest above", 0, givenTo(Scene.withLifts(9, 6, 9, 2, 9), 4, 1));
        Due.is("the lowest below", 0, givenTo(Scene.withLifts(9, 2, 9, 6, 9), 4, 1));
        Due.is("the lowest of those that may", 1, givenTo(Scene.withLifts(9, 4, 8, 5, 9, 3, 9), 4, 9));
    }

    private static void neitherStuckNorReserved() {
        Due.sentence("of those that are neither stuck nor reserved");
        LiftRows2 x = Scene.withLifts(9, 4, 9, 5, 9, 6, 9, 7, 9);
        x.stuck(0, true);
        Due.is("not the stuck one", 1, givenTo(x, 4, 1));
        x.reserved(1, true);
        Due.is("not the reserved one", 2, givenTo(x, 4, 1));
        x.stuck(2, true);
        x.reserved(2, true);
        Due.is("not the one that is both", 3, givenTo(x, 4, 1));
        x.stuck(2, false);
        Due.is("still reserved", 3, givenTo(x, 4, 1));
        x.reserved(2, false);
        Due.is("neither any more", 2, givenTo(x, 4, 1));
        x.reserved(1, false);
        Due.is("not reserved any more", 1, givenTo(x, 4, 1));
        x.stuck(0, false);
        Due.is("not stuck any more", 0, givenTo(x, 4, 1));
    }

    private static void elseToNone() {
        Due.sentence("else to none");
        Due.is("no lift", -1, givenTo(new LiftRows2(9), 4, 1));
        LiftRows2 stuck = Scene.withLifts(9, 4, 9);
        stuck.stuck(0, true);
        Due.is("stuck", -1, givenTo(stuck, 4, 1));
        LiftRows2 reserved = Scene.withLifts(9, 4, 9);
        reserved.reserved(0, true);
        Due.is("reserved", -1, givenTo(reserved, 4, 1));
        LiftRows2 each = Scene.withLifts(9, 4, 9, 4, 9, 4, 8);
        each.stuck(0, true);
        each.reserved(1, true);
        Due.is("stuck, reserved, too small", -1, givenTo(each, 4, 9));
    }

    private static void givenWhenItComes() {
        Due.sentence("It is given, when it comes");
        LiftRows2 x = new LiftRows2(20);
        x.call(5, 6, 1, 1);
        x.lift(5, 9);
        x.step(5);
        Due.is("a later lift does not get it by itself", -1, x.known(0, 1));
        Due.is("nor take it aboard", 0, x.count(3));
        LiftRows2 moved = Scene.withLifts(20, 0, 9, 6, 9);
        moved.call(5, 1, 1, 9);
        moved.call(2, 12, 1, 9);
        moved.step(9);
        Due.is("lift 0 has gone up", 5, moved.level(0));
        Due.is("lift 1 has gone down", 1, moved.level(1));
        Due.is("where the lifts are now counts", 1, givenTo(moved, 0, 1));
        Due.is("where the lifts are now counts", 0, givenTo(moved, 6, 1));
        LiftRows2 kept = Scene.withLifts(20, 10, 9, 19, 9);
        kept.call(10, 11, 1, 1);
        kept.step(1);
        kept.door(0, true);
        kept.call(5, 4, 1, 1);
        kept.call(19, 5, 1, 1);
        Due.is("lift 1 comes to 5", 2, kept.step(30));
        Due.is("lift 1 is at 5", 5, kept.level(1));
        Due.is("what waits at 5 for lift 0 stays given to it", 0, kept.known(1, 1));
        Due.is("and waits yet", 0, kept.known(1, 0));
        Due.is("a new one is given to lift 1", 1, givenTo(kept, 5, 1));
    }

    private static void secondsAndLifts() {
        Due.sentence("A SECOND: time is one more; then each lift, upward by number");
        LiftRows2 none = new LiftRows2(5);
        Due.is("no lift: no event", 0, none.step(1));
        Due.is("no lift: time is one more", 1, none.count(4));
        LiftRows2 x = Scene.withLifts(9, 0, 9, 3, 9, 5, 9, 8, 9);
        int[] first = {8, 5, 3, 0};
        for (int from : first) {
            x.call(from, 4, 1, 1);
        }
        Due.is("all four in one second", 4, x.step(1));
        for (int i = 0; i < 4; i++) {
            Due.is("the second has the new time", 1, x.event(i, 0));
            Due.is("upward by number of the lift", i, x.event(i, 1));
            Due.is("not of the call", 3 - i, x.event(i, 2));
        }
    }

    private static void stuckOnesDoNothing() {
        Due.sentence("that is not stuck does one thing");
        LiftRows2 x = Scene.withLifts(9, 4, 9);
        x.call(4, 6, 1, 1);
        x.step(2);
        x.stuck(0, true);
        x.step(10);
        Due.is("the open door stays as it is", 2, x.told(0, 2));
        x.stuck(0, false);
        x.step(3);
        Due.is("on its way", 5, x.level(0));
        x.stuck(0, true);
        x.step(10);
        Due.is("does not go", 5, x.level(0));
        Due.is("keeps its direction", 1, x.told(0, 1));
        x.stuck(0, false);
        x.step(1);
        Due.is("where it wants to", 6, x.level(0));
        x.stuck(0, true);
        Due.is("does not let out", 0, x.step(10));
        Due.is("time is more", 36, x.count(4));
        x.stuck(0, false);
        Due.is("then it does", 1, x.step(1));
        x.step(3);
        x.stuck(0, true);
        x.step(1);
        Due.is("its direction stays, too, with nothing to do", 1, x.told(0, 1));
    }

    private static void oneThingASecond() {
        Due.sentence("does one thing");
        LiftRows2 x = Scene.withLifts(9, 0, 9);
        x.call(1, 0, 1, 1);
        int[][] levelDoorStateDirection = {{1, 0, 0, 1}, {1, 3, 1, 1}, {1, 2, 1, 1}, {1, 1, 1, 1}, {1, 0, 1, 1},
            {0, 0, 1, -1}, {0, 3, 2, -1}, {0, 2, 2, -1}, {0, 1, 2, -1}, {0, 0, 2, -1}, {0, 0, 2, 0}, {0, 0, 2, 0}};
        for (int i = 0; i < levelDoorStateDirection.length; i++) {
            int[] due = levelDoorStateDirection[i];
            x.step(1);
            Due.is("level at " + (i + 1), due[0], x.level(0));
            Due.is("door at " + (i + 1), due[1], x.told(0, 2));
            Due.is("state at " + (i + 1), due[2], x.known(0, 0));
            Due.is("direction at " + (i + 1), due[3], x.told(0, 1));
        }
    }

    private static void openDoor() {
        Due.sentence("if its door is open: the seconds are one fewer; with none left it is shut");
        LiftRows2 x = Scene.withLifts(9, 4, 9);
        x.call(4, 5, 1, 1);
        x.step(1);
        Due.is("3", 3, x.told(0, 2));
        x.call(4, 3, 1, 1);
        for (int open = 2; open >= 0; open--) {
            Due.is("none comes aboard through the open door", 0, x.step(1));
            Due.is("one fewer", open, x.told(0, 2));
        }
        Due.is("shut, so it opens anew", 1, x.step(1));
        Due.is("3 again", 3, x.told(0, 2));
    }

    private static void keptDoor() {
        Due.sentence("but not below 1 if it is kept open");
        for (int open = 3; open >= 1; open--) {
            LiftRows2 x = Scene.withLifts(9, 4, 9);
            x.call(4, 5, 1, 1);
            x.step(4 - open);
            x.door(0, true);
            Due.is("kept at", open, x.told(0, 2));
            for (int i = 1; i <= 4; i++) {
                x.step(1);
                Due.is("kept at " + open + ", " + i, Math.max(1, open - i), x.told(0, 2));
                Due.is("stays", 4, x.level(0));
            }
            Due.is("for long", 0, x.step(200));
            Due.is("for long", 1, x.told(0, 2));
            Due.is("aboard yet", 1, x.known(0, 0));
        }
    }

    private static void fitsOrNot() {
        Due.sentence("its load and what is aboard are not above the capacity");
        for (int load = 3; load <= 6; load++) {
            LiftRows2 x = Scene.withLifts(9, 0, 10);
            x.call(0, 3, 1, 6);
            x.call(1, 2, 1, load);
            x.step(5);
            Due.is("at 1", 1, x.level(0));
            boolean fits = load <= 4;
            Due.is("load " + load, fits ? 1 : 0, x.step(1));
            Due.is("its door", fits ? 3 : 0, x.told(0, 2));
            Due.is("its level", fits ? 1 : 2, x.level(0));
            Due.is("aboard", fits ? 6 + load : 6, x.told(0, 0));
        }
        LiftRows2 largest = Scene.withLifts(2, 0, 50);
        largest.call(0, 1, 1, 50);
        Due.is("50 of 50", 1, largest.step(1));
        LiftRows2 smallest = Scene.withLifts(2, 0, 1);
        smallest.call(0, 1, 1, 1);
        smallest.call(0, 1, 1, 1);
        Due.is("1 of 1, but not a second", 1, smallest.step(1));
    }

    private static void room() {
        Due.sentence("what is aboard (but for those that get out here)");
        for (int load = 6; load <= 8; load++) {
            LiftRows2 x = Scene.withLifts(9, 0, 10);
            x.call(0, 3, 1, 3);
            x.call(0, 2, 1, 7);
            x.call(2, 4, 1, load);
            x.step(6);
            Due.is("at 2", 2, x.level(0));
            Due.is("7 get out, 3 stay, load " + load, load <= 7 ? 2 : 1, x.step(1));
            Due.is("first one gets out", 1, x.event(2, 2));
            Due.is("aboard", load <= 7 ? 3 + load : 3, x.told(0, 0));
        }
    }

    private static void wantsToThisLevel() {
        Due.sentence("if one aboard wants to this level: those that are where they want to are SERVED");
        LiftRows2 x = Scene.withLifts(9, 0, 10);
        x.call(0, 2, 1, 1);
        x.call(0, 2, 3, 1);
        x.call(0, 1, 2, 1);
        x.call(0, 3, 2, 1);
        x.step(4);
        Due.is("none where they came aboard", 0, x.step(1));
        Due.is("one at 1", 1, x.step(1));
        Due.is("that one", 2, x.event(4, 2));
        x.step(4);
        Due.is("two at 2, and not the one for 3", 2, x.step(1));
        Due.is("aboard yet", 1, x.known(3, 0));
        Due.is("the door is open for 3 seconds", 3, x.told(0, 2));
    }

    private static void givenToIt() {
        Due.sentence("or one that is given to it waits here");
        LiftRows2 x = Scene.withLifts(9, 4, 10, 4, 10);
        x.call(4, 5, 1, 1);
        Due.is("lift 0 alone", 1, x.step(1));
        Due.is("its door is open", 3, x.told(0, 2));
        Due.is("the other's is not", 0, x.told(1, 2));
        LiftRows2 none = new LiftRows2(9);
        none.call(4, 5, 1, 1);
        none.lift(4, 10);
        none.call(4, 6, 1, 1);
        Due.is("the one that is given alone", 1, none.step(1));
        Due.is("not the other", 0, none.known(0, 0));
    }

    private static void byRankThenNumber() {
        Due.sentence("those that wait here come aboard, by rank (1 first), then by number");
        LiftRows2 x = Scene.withLifts(9, 4, 50);
        int[] ranks = {3, 2, 1, 3, 2, 1};
        for (int rank : ranks) {
            x.call(4, 5, rank, 1);
        }
        Due.is("all", 6, x.step(1));
        int[] order = {2, 5, 1, 4, 0, 3};
        for (int i = 0; i < order.length; i++) {
            Due.is("place " + i, order[i], x.event(i, 2));
        }
        LiftRows2 one = Scene.withLifts(9, 4, 5);
        one.call(4, 5, 3, 5);
        one.call(4, 5, 2, 5);
        one.call(4, 5, 1, 5);
        Due.is("room for one", 1, one.step(1));
        Due.is("rank 1 has it", 2, one.event(0, 2));
    }

    private static void eachThatStillFits() {
        Due.sentence("each that still fits");
        LiftRows2 x = Scene.withLifts(9, 4, 10);
        int[][] ranksAndLoads = {{1, 6}, {1, 5}, {2, 5}, {2, 3}, {3, 2}, {3, 1}};
        for (int[] pair : ranksAndLoads) {
            x.call(4, 5, pair[0], pair[1]);
        }
        Due.is("6, not 5, not 5, 3, not 2, 1", 3, x.step(1));
        Due.is("6", 0, x.event(0, 2));
        Due.is("3", 3, x.event(1, 2));
        Due.is("1", 5, x.event(2, 2));
        Due.is("full", 10, x.told(0, 0));
        Due.is("three wait for it yet", 3, x.told(0, 4));
    }

    private static void workWhetherItFits() {
        Due.sentence("levels at which those wait that are given to it (whether they fit or not, but not this level)");
        LiftRows2 x = Scene.withLifts(9, 0, 10);
        x.call(2, 0, 1, 10);
        x.call(5, 6, 1, 10);
        x.step(3);
        Due.is("full at 2", 10, x.told(0, 0));
        x.step(6);
        Due.is("up to one that does not fit", 5, x.level(0));
        Due.is("does not open for it", 0, x.step(1));
        Due.is("turns, this level is no work", 4, x.level(0));
        Due.is("both in the end", 3, x.step(30));
    }

    private static void goesOnInItsDirection() {
        Due.sentence("it goes on in its direction if there is work in it");
        LiftRows2 down = Scene.withLifts(20, 10, 10);
        down.call(0, 1, 1, 1);
        down.step(1);
        down.call(10, 11, 1, 1);
        down.step(1);
        Due.is("down, though the work above is nearer", 8, down.level(0));
        Due.is("down", -1, down.told(0, 1));
        LiftRows2 up = Scene.withLifts(20, 10, 10);
        up.call(19, 1, 1, 1);
        up.step(1);
        up.call(10, 9, 1, 1);
        up.step(1);
        Due.is("up, though the work below is nearer", 12, up.level(0));
        Due.is("up", 1, up.told(0, 1));
        LiftRows2 open = Scene.withLifts(20, 10, 10);
        open.call(9, 8, 1, 1);
        open.step(7);
        Due.is("served at 8", 2, open.known(0, 0));
        open.call(9, 10, 1, 1);
        open.call(7, 6, 1, 1);
        open.step(4);
        Due.is("its direction outlasts the open door", 7, open.level(0));
    }

    private static void turns() {
        Due.sentence("else its direction turns to where there is some; it goes one level");
        LiftRows2 x = Scene.withLifts(20, 10, 10);
        x.call(11, 9, 1, 1);
        x.step(1);
        Due.is("up", 1, x.told(0, 1));
        x.step(5);
        Due.is("down", -1, x.told(0, 1));
        Due.is("one level in the second in which it turns", 10, x.level(0));
        LiftRows2 up = Scene.withLifts(20, 10, 10);
        up.call(9, 11, 1, 1);
        up.step(6);
        Due.is("up", 1, up.told(0, 1));
        Due.is("one level", 10, up.level(0));
        Due.is("levels gone", 2, up.count(8));
    }

    private static void directionFromNone() {
        Due.sentence("(with none: up, if there is work above, else down)");
        LiftRows2 both = Scene.withLifts(20, 10, 10);
        both.call(9, 8, 1, 1);
        both.call(19, 18, 1, 1);
        both.step(1);
        Due.is("up, though the work below is nearer", 11, both.level(0));
        LiftRows2 below = Scene.withLifts(20, 10, 10);
        below.call(0, 19, 1, 1);
        below.step(1);
        Due.is("down", 9, below.level(0));
        LiftRows2 again = Scene.withLifts(20, 10, 10);
        again.call(9, 8, 1, 1);
        again.step(11);
        Due.is("none again", 0, again.told(0, 1));
        again.call(7, 6, 1, 1);
        again.call(9, 10, 1, 1);
        again.step(1);
        Due.is("up, as it has none", 9, again.level(0));
    }

    private static void ends() {
        Due.sentence("it goes one level (and never beyond the lowest or the highest)");
        LiftRows2 two = Scene.withLifts(2, 0, 10);
        two.call(1, 0, 1, 1);
        two.call(0, 1, 1, 1);
        Due.is("all served", 4, two.step(200));
        Due.is("of two levels", 2, two.count(8));
        LiftRows2 x = Scene.withLifts(20, 0, 10);
        x.call(19, 0, 1, 1);
        x.step(19);
        Due.is("at the highest", 19, x.level(0));
        Due.is("stays", 1, x.step(1));
        x.step(22);
        Due.is("at the lowest", 0, x.level(0));
        Due.is("stays", 1, x.step(100));
        Due.is("at the lowest yet", 0, x.level(0));
        Due.is("levels gone", 38, x.count(8));
    }

    private static void directionNone() {
        Due.sentence("else its direction is none");
        LiftRows2 x = Scene.withLifts(20, 10, 10);
        x.step(1);
        Due.is("idle", 0, x.told(0, 1));
        Due.is("stays", 10, x.level(0));
        x.call(11, 12, 1, 1);
        x.step(10);
        Due.is("till the door is shut", 1, x.told(0, 1));
        x.step(1);
        Due.is("then none", 0, x.told(0, 1));
        Due.is("stays", 12, x.level(0));
        LiftRows2 taken = Scene.withLifts(20, 10, 10, 19, 10);
        taken.call(5, 6, 1, 1);
        taken.step(2);
        taken.stuck(0, true);
        taken.stuck(0, false);
        taken.step(1);
        Due.is("its work was given to another", 0, taken.told(0, 1));
        Due.is("so it stays", 8, taken.level(0));
        Due.is("that other goes", 18, taken.level(1));
    }

    private static void eventsInTheirOrder() {
        Due.sentence("EVENTS are told in their order: a second, a lift, a call, a kind");
        LiftRows2 x = Scene.withLifts(9, 8, 10, 0, 10);
        x.call(2, 3, 2, 10);
        x.call(0, 2, 1, 10);
        x.step(20);
        int[][] due = {{1, 1, 1, 0}, {7, 1, 1, 1}, {7, 1, 0, 0}, {12, 1, 0, 1}};
        Due.is("so many", due.length, x.count(3));
        for (int i = 0; i < due.length; i++) {
            for (int what = 0; what < 4; what++) {
                Due.is("event " + i + ", " + what, due[i][what], x.event(i, what));
            }
        }
        Due.refused("no more", NoSuchElementException.class, () -> x.event(due.length, 0));
    }

    private static void fiveHundredTwelveCalls() {
        Due.sentence("An object is used for at most 512 calls after it has been made");
        LiftRows2 x = Scene.withLifts(20, 0, 50);
        x.call(19, 0, 1, 50);
        for (int i = 3; i <= 511; i++) {
            x.step(200);
        }
        Due.is("the 512th", 509 * 200, x.count(4));
        LiftRows2 waits = new LiftRows2(20);
        waits.call(0, 19, 1, 1);
        for (int i = 2; i <= 511; i++) {
            waits.step(200);
        }
        Due.is("the longest wait", 510 * 200, waits.waits(0));
    }
}
