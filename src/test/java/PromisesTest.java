import java.util.NoSuchElementException;

/** Each promise by itself: ordinary inputs, the edges that the document names, wrong inputs. */
public final class PromisesTest {
    private static final Class<IllegalArgumentException> ARGUMENT = IllegalArgumentException.class;
    private static final Class<IllegalStateException> STATE = IllegalStateException.class;
    private static final Class<NoSuchElementException> NO_SUCH = NoSuchElementException.class;
    private static final Class<UnsupportedOperationException> NO_ROOM = UnsupportedOperationException.class;
    private static final int[] NO_LIFT_OF_ONE = {-1, 1, 3, 4, 24, Integer.MIN_VALUE, Integer.MAX_VALUE};

    public static void main(String[] args) {
        promise1NewObject();
        promise2Lift();
        promise3Call();
        promise3GivenToTheNearest();
        promise4Step();
        promise4Doors();
        promise4Boarding();
        promise4Directions();
        promise5Event();
        promise6Level();
        promise7Told();
        promise8Door();
        promise9Stuck();
        promise10Reserved();
        promise11Freed();
        promise12Served();
        promise13Waits();
        promise14Least();
        promise15Joins();
        promise16Known();
        promise17Count();
        withAllRowsFull();
        Due.end();
    }

    private static void promise1NewObject() {
        int[][] levels = {{Integer.MIN_VALUE, 2}, {-1, 2}, {0, 2}, {1, 2}, {2, 2}, {3, 3}, {11, 11}, {19, 19},
            {20, 20}, {21, 20}, {Integer.MAX_VALUE, 20}};
        for (int[] pair : levels) {
            Due.is("1: levels of " + pair[0], pair[1], new LiftRows2(pair[0]).count(0));
        }
        LiftRows2 x = new LiftRows2(5);
        for (int what = 1; what <= 8; what++) {
            Due.is("1: new count " + what, 0, x.count(what));
        }
    }

    private static void promise2Lift() {
        LiftRows2 x = new LiftRows2(5);
        Due.refused("2: below", ARGUMENT, () -> x.lift(-1, 10));
        Due.refused("2: above", ARGUMENT, () -> x.lift(5, 10));
        Due.refused("2: capacity 0", ARGUMENT, () -> x.lift(0, 0));
        Due.refused("2: capacity 51", ARGUMENT, () -> x.lift(0, 51));
        Due.is("2: none came by refusals", 0, x.count(1));
        Due.is("2: first", 0, x.lift(4, 1));
        Due.is("2: second", 1, x.lift(0, 50));
        Due.is("2: third", 2, x.lift(2, 7));
        Due.is("2: fourth", 3, x.lift(2, 7));
        Due.is("2: its level", 4, x.level(0));
        Due.is("2: its level", 2, x.level(3));
        Due.is("2: four", 4, x.count(1));
        Due.refused("2: a fifth", NO_ROOM, () -> x.lift(0, 10));
        Due.refused("2: a fifth with a wrong level", ARGUMENT, () -> x.lift(5, 10));
        Due.refused("2: a fifth with a wrong capacity", ARGUMENT, () -> x.lift(0, 51));
        Due.is("2: still four", 4, x.count(1));
    }

    private static void promise3Call() {
        LiftRows2 x = Scene.withLifts(5, 0, 10);
        Due.refused("3: from below", ARGUMENT, () -> x.call(-1, 1, 1, 1));
        Due.refused("3: from above", ARGUMENT, () -> x.call(5, 1, 1, 1));
        Due.refused("3: to below", ARGUMENT, () -> x.call(1, -1, 1, 1));
        Due.refused("3: to above", ARGUMENT, () -> x.call(1, 5, 1, 1));
        Due.refused("3: rank 0", ARGUMENT, () -> x.call(0, 1, 0, 1));
        Due.refused("3: rank 4", ARGUMENT, () -> x.call(0, 1, 4, 1));
        Due.refused("3: load 0", ARGUMENT, () -> x.call(0, 1, 1, 0));
        Due.refused("3: load 51", ARGUMENT, () -> x.call(0, 1, 1, 51));
        Due.refused("3: to itself", ARGUMENT, () -> x.call(3, 3, 1, 1));
        Due.is("3: none came by refusals", 0, x.count(2));
        for (int i = 0; i < 24; i++) {
            Due.is("3: number", i, x.call(i % 5, (i + 1) % 5, i % 3 + 1, i * 2 + 1));
        }
        Due.refused("3: a 25th", NO_ROOM, () -> x.call(0, 1, 1, 1));
        Due.refused("3: a 25th to itself", ARGUMENT, () -> x.call(1, 1, 1, 1));
        Due.refused("3: a 25th with a wrong load", ARGUMENT, () -> x.call(0, 1, 1, 51));
        Due.is("3: still 24", 24, x.count(2));
        Due.is("3: load 50 comes", 0, new LiftRows2(2).call(1, 0, 3, 50));
    }

    private static void promise3GivenToTheNearest() {
        LiftRows2 x = Scene.withLifts(20, 10, 20, 4, 5, 16, 20, 10, 50);
        Due.is("3: nearest above", 2, givenTo(x, 15, 1));
        Due.is("3: nearest below", 1, givenTo(x, 0, 5));
        Due.is("3: nearest has too little", 0, givenTo(x, 0, 6));
        Due.is("3: equal ones, the lowest", 0, givenTo(x, 13, 20));
        Due.is("3: equal ones, one has too little", 3, givenTo(x, 13, 21));
        Due.is("3: at its level", 1, givenTo(x, 4, 5));
        x.stuck(0, true);
        Due.is("3: not the stuck one", 3, givenTo(x, 10, 1));
        x.reserved(3, true);
        Due.is("3: not the reserved one", 1, givenTo(x, 10, 1));
        Due.is("3: none", -1, givenTo(x, 10, 21));
        Due.is("3: no lift at all", -1, givenTo(new LiftRows2(4), 1, 1));
        LiftRows2 late = new LiftRows2(4);
        late.call(0, 1, 1, 1);
        late.lift(0, 9);
        Due.is("3: a later lift gets nothing by itself", -1, late.known(0, 1));
        LiftRows2 far = Scene.withLifts(20, 19, 1);
        Due.is("3: the longest way", 0, givenTo(far, 0, 1));
    }

    private static int givenTo(LiftRows2 x, int from, int load) {
        return x.known(x.call(from, from == 0 ? 1 : from - 1, 1, load), 1);
    }

    private static void promise4Step() {
        LiftRows2 x = Scene.withLifts(9, 0, 10);
        Due.refused("4: -1", ARGUMENT, () -> x.step(-1));
        Due.refused("4: 201", ARGUMENT, () -> x.step(201));
        Due.refused("4: least", ARGUMENT, () -> x.step(Integer.MIN_VALUE));
        Due.is("4: no time by refusals", 0, x.count(4));
        Due.is("4: none", 0, x.step(0));
        Due.is("4: no time", 0, x.count(4));
        x.call(2, 5, 1, 3);
        Due.is("4: 2 seconds", 0, x.step(2));
        Due.is("4: at 2", 2, x.level(0));
        Due.is("4: aboard", 1, x.step(1));
        Due.is("4: still at 2", 2, x.level(0));
        Due.is("4: 3 open seconds, 3 levels", 0, x.step(6));
        Due.is("4: at 5", 5, x.level(0));
        Due.is("4: served", 1, x.step(1));
        Due.is("4: 200", 0, x.step(200));
        Due.is("4: time", 210, x.count(4));
        Due.is("4: levels gone", 5, x.count(8));
        LiftRows2 two = Scene.withLifts(9, 0, 10, 8, 10);
        two.call(0, 1, 1, 1);
        two.call(8, 7, 1, 1);
        Due.is("4: events of both lifts", 4, two.step(20));
        Due.is("4: lifts upward by number", 0, two.event(0, 1));
        Due.is("4: lifts upward by number", 1, two.event(1, 1));
    }

    private static void promise4Doors() {
        LiftRows2 x = Scene.withLifts(3, 1, 10);
        x.call(1, 2, 1, 1);
        x.step(1);
        for (int open = 3; open >= 0; open--) {
            Due.is("4: open yet", open, x.told(0, 2));
            Due.is("4: not gone", 1, x.level(0));
            x.step(1);
        }
        Due.is("4: gone once shut", 2, x.level(0));
        LiftRows2 again = Scene.withLifts(3, 1, 10);
        again.call(1, 2, 1, 1);
        again.step(2);
        again.call(1, 0, 1, 1);
        Due.is("4: none comes in by an open door", 0, again.step(2));
        Due.is("4: it opens again", 1, again.step(1));
        Due.is("4: for 3 seconds", 3, again.told(0, 2));
    }

    private static void promise4Boarding() {
        LiftRows2 x = Scene.withLifts(6, 2, 10);
        x.call(2, 4, 3, 2);
        x.call(2, 5, 1, 7);
        x.call(2, 3, 2, 9);
        x.call(2, 4, 1, 2);
        x.call(2, 4, 2, 1);
        Due.is("4: those that fit", 3, x.step(1));
        Due.is("4: rank 1, lower number", 1, x.event(0, 2));
        Due.is("4: rank 1, higher number", 3, x.event(1, 2));
        Due.is("4: rank 2 that fits behind one that does not", 4, x.event(2, 2));
        Due.is("4: full", 10, x.told(0, 0));
        Due.is("4: one that does not fit holds nothing", 0, x.step(5));
        Due.is("4: on its way", 4, x.level(0));
        Due.is("4: two get out, by number", 2, x.step(1));
        Due.is("4: first out", 3, x.event(3, 2));
        Due.is("4: then", 4, x.event(4, 2));
        LiftRows2 swap = Scene.withLifts(4, 0, 10);
        swap.call(0, 2, 1, 10);
        swap.call(2, 3, 1, 10);
        Due.is("4: room of those that get out", 3, swap.step(7));
        Due.is("4: served before", 1, swap.event(1, 3));
        Due.is("4: then aboard", 0, swap.event(2, 3));
        LiftRows2 full = Scene.withLifts(4, 0, 10);
        full.call(0, 3, 1, 6);
        full.call(1, 2, 1, 5);
        Due.is("4: goes by one that does not fit", 2, full.step(8));
        Due.is("4: at the top", 3, full.level(0));
        Due.is("4: comes back for it", 2, full.step(20));
        Due.is("4: served at last", 2, full.known(1, 0));
        LiftRows2 edge = Scene.withLifts(4, 0, 10);
        edge.call(0, 3, 1, 6);
        edge.call(1, 2, 1, 4);
        edge.step(5);
        Due.is("4: just fits", 1, edge.step(1));
        LiftRows2 part = Scene.withLifts(4, 0, 10);
        part.call(0, 3, 1, 5);
        part.call(1, 3, 3, 4);
        part.call(1, 3, 3, 2);
        part.step(5);
        Due.is("4: rank 3, those that fit beside one aboard", 1, part.step(1));
        Due.is("4: the lower number", 1, part.event(1, 2));
        Due.is("4: not above the capacity", 9, part.told(0, 0));
    }

    private static void promise4Directions() {
        LiftRows2 x = Scene.withLifts(10, 5, 50);
        Due.is("4: none at first", 0, x.told(0, 1));
        x.call(3, 0, 1, 1);
        x.call(9, 8, 1, 1);
        x.step(1);
        Due.is("4: from none up, if there is work above", 1, x.told(0, 1));
        Due.is("4: one level", 6, x.level(0));
        x.step(3);
        Due.is("4: goes on up", 9, x.level(0));
        x.step(5);
        Due.is("4: turns down", -1, x.told(0, 1));
        Due.is("4: turning and going in one second", 8, x.level(0));
        x.step(4);
        x.call(9, 7, 1, 1);
        x.step(1);
        Due.is("4: goes on down though there is work above", 7, x.level(0));
        LiftRows2 down = Scene.withLifts(10, 5, 50);
        down.call(4, 3, 1, 1);
        down.step(1);
        Due.is("4: from none down", -1, down.told(0, 1));
        down.step(5);
        Due.is("4: served at 3", 1, down.step(1));
        Due.is("4: keeps it while the door is open", -1, down.told(0, 1));
        down.step(3);
        Due.is("4: keeps it till it does nothing", -1, down.told(0, 1));
        down.step(1);
        Due.is("4: none without work", 0, down.told(0, 1));
        LiftRows2 turn = Scene.withLifts(10, 5, 50);
        turn.call(4, 9, 1, 1);
        turn.step(6);
        Due.is("4: turns up", 1, turn.told(0, 1));
        Due.is("4: goes up", 5, turn.level(0));
    }

    private static void promise5Event() {
        LiftRows2 x = Scene.withLifts(4, 3, 10, 0, 10);
        Due.refused("5: none yet", NO_SUCH, () -> x.event(0, 0));
        x.call(1, 2, 1, 1);
        x.step(20);
        int[][] due = {{2, 1, 0, 0}, {7, 1, 0, 1}};
        for (int i = 0; i < due.length; i++) {
            for (int what = 0; what < 4; what++) {
                Due.is("5: event " + i + ", " + what, due[i][what], x.event(i, what));
            }
        }
        Due.refused("5: below", NO_SUCH, () -> x.event(-1, 0));
        Due.refused("5: above", NO_SUCH, () -> x.event(2, 0));
        Due.refused("5: far above", NO_SUCH, () -> x.event(Integer.MAX_VALUE, 0));
        Due.refused("5: what -1", ARGUMENT, () -> x.event(0, -1));
        Due.refused("5: what 4", ARGUMENT, () -> x.event(1, 4));
        Due.refused("5: none comes before what", NO_SUCH, () -> x.event(2, 4));
        LiftRows2 most = Scene.withLifts(2, 0, 1);
        for (int i = 0; i < 24; i++) {
            most.call(i % 2, 1 - i % 2, 1, 1);
        }
        int sum = 0;
        for (int i = 0; i < 2; i++) {
            sum += most.step(200);
        }
        Due.is("5: all 48 are told", 48, sum);
        Due.is("5: all 48 are kept", 48, most.count(3));
        Due.is("5: the last is a service", 1, most.event(47, 3));
        Due.refused("5: no 49th", NO_SUCH, () -> most.event(48, 0));
    }

    private static void promise6Level() {
        LiftRows2 x = Scene.withLifts(6, 5, 10);
        Due.is("6: level", 5, x.level(0));
        for (int lift = 1; lift < 4; lift++) {
            int none = lift;
            Due.refused("6: did not come yet " + none, NO_SUCH, () -> x.level(none));
        }
        for (int none : new int[] {-1, 4, 5, Integer.MIN_VALUE, Integer.MAX_VALUE}) {
            Due.refused("6: never comes " + none, ArrayIndexOutOfBoundsException.class, () -> x.level(none));
        }
        x.lift(1, 1);
        Due.is("6: came", 1, x.level(1));
        x.call(3, 0, 1, 10);
        x.step(1);
        Due.is("6: went", 4, x.level(0));
        x.lift(0, 1);
        x.lift(2, 1);
        Due.is("6: the fourth", 2, x.level(3));
        Due.refused("6: no fifth", ArrayIndexOutOfBoundsException.class, () -> x.level(4));
    }

    private static void toldIs(String when, LiftRows2 x, int lift, int... due) {
        for (int what = 0; what < due.length; what++) {
            Due.is("7: " + when + ", " + what, due[what], x.told(lift, what));
        }
    }

    private static void promise7Told() {
        LiftRows2 x = Scene.withLifts(6, 1, 10);
        toldIs("new", x, 0, 0, 0, 0, 0, 0, 0, 0, 0);
        x.call(1, 5, 1, 4);
        x.call(1, 5, 1, 5);
        x.call(1, 5, 1, 6);
        toldIs("called", x, 0, 0, 0, 0, 0, 3, 0, 0, 0);
        x.step(1);
        toldIs("aboard", x, 0, 9, 0, 3, 2, 1, 0, 0, 0);
        x.door(0, true);
        x.reserved(0, true);
        x.step(9);
        toldIs("kept", x, 0, 9, 0, 1, 2, 1, 0, 1, 1);
        x.door(0, false);
        x.step(2);
        toldIs("up", x, 0, 9, 1, 0, 2, 1, 0, 1, 0);
        x.stuck(0, true);
        toldIs("stuck", x, 0, 9, 1, 0, 2, 0, 1, 1, 0);
        x.stuck(0, false);
        x.step(4);
        toldIs("served", x, 0, 0, 1, 3, 0, 0, 0, 1, 0);
        Due.refused("7: what -1", ARGUMENT, () -> x.told(0, -1));
        Due.refused("7: what 8", ARGUMENT, () -> x.told(0, 8));
        for (int none : NO_LIFT_OF_ONE) {
            Due.refused("7: no lift " + none, NO_SUCH, () -> x.told(none, 0));
        }
        Due.refused("7: no lift comes before what", NO_SUCH, () -> x.told(1, 8));
    }

    private static void promise8Door() {
        LiftRows2 x = Scene.withLifts(3, 0, 10);
        Due.refused("8: shut", STATE, () -> x.door(0, true));
        Due.refused("8: is not kept", STATE, () -> x.door(0, false));
        x.call(0, 1, 1, 1);
        x.step(1);
        Due.refused("8: open, but not kept", STATE, () -> x.door(0, false));
        x.door(0, true);
        Due.refused("8: is kept", STATE, () -> x.door(0, true));
        int[] open = {2, 1, 1, 1};
        for (int seconds : open) {
            x.step(1);
            Due.is("8: not below 1", seconds, x.told(0, 2));
        }
        x.door(0, false);
        Due.is("8: still open", 1, x.told(0, 2));
        x.step(1);
        Due.is("8: shut by the next second", 0, x.told(0, 2));
        Due.is("8: not kept", 0, x.told(0, 7));
        Due.refused("8: shut again", STATE, () -> x.door(0, true));
        Due.is("8: goes and serves", 1, x.step(2));
        x.door(0, true);
        x.door(0, false);
        x.step(2);
        Due.is("8: let go in time, the seconds run on", 1, x.told(0, 2));
        for (int none : NO_LIFT_OF_ONE) {
            Due.refused("8: no lift " + none, NO_SUCH, () -> x.door(none, true));
            Due.refused("8: no lift " + none, NO_SUCH, () -> x.door(none, false));
        }
    }

    private static void promise9Stuck() {
        LiftRows2 x = Scene.withLifts(8, 0, 10, 7, 5, 3, 10);
        Due.refused("9: works", STATE, () -> x.stuck(0, false));
        x.call(0, 6, 1, 3);
        x.call(0, 6, 1, 3);
        x.step(1);
        x.call(1, 6, 1, 3);
        x.call(0, 5, 1, 8);
        x.call(1, 6, 1, 10);
        Due.is("9: calls aboard", 2, x.stuck(0, true));
        Due.refused("9: is stuck", STATE, () -> x.stuck(0, true));
        Due.is("9: given anew", 2, x.known(2, 1));
        Due.is("9: given anew", 2, x.known(3, 1));
        Due.is("9: aboard stays", 0, x.known(0, 1));
        Due.is("9: aboard stays aboard", 1, x.known(0, 0));
        Due.is("9: none waits for it", 0, x.told(0, 4));
        Due.is("9: none aboard", 0, x.stuck(2, true));
        Due.is("9: the last that works", 1, x.known(2, 1));
        Due.is("9: too little room, so none", -1, x.known(3, 1));
        Due.is("9: given to none", 2, x.count(6));
        x.step(5);
        Due.is("9: a stuck one does nothing", 3, x.told(0, 2));
        Due.is("9: a stuck one stays", 3, x.level(2));
        Due.is("9: works again", 2, x.stuck(0, false));
        Due.is("9: working again gives nothing", 2, x.count(6));
        Due.is("9: another keeps its calls", 1, x.known(2, 1));
        x.step(4);
        Due.is("9: goes on", 1, x.level(0));
        LiftRows2 other = Scene.withLifts(8, 0, 10, 7, 10);
        other.call(7, 0, 1, 1);
        other.call(0, 7, 1, 1);
        other.lift(0, 10);
        other.stuck(0, true);
        Due.is("9: only its own calls are given anew", 1, other.known(0, 1));
        Due.is("9: its own is", 2, other.known(1, 1));
        for (int none : NO_LIFT_OF_ONE) {
            LiftRows2 one = Scene.withLifts(3, 0, 10);
            Due.refused("9: no lift " + none, NO_SUCH, () -> one.stuck(none, true));
            Due.refused("9: no lift " + none, NO_SUCH, () -> one.stuck(none, false));
        }
    }

    private static void promise10Reserved() {
        LiftRows2 x = Scene.withLifts(8, 0, 10, 7, 10);
        Due.refused("10: is not", STATE, () -> x.reserved(0, false));
        x.call(0, 2, 1, 3);
        x.call(0, 2, 1, 3);
        x.step(1);
        x.call(1, 2, 1, 3);
        Due.is("10: aboard and waiting", 3, x.reserved(0, true));
        Due.refused("10: is", STATE, () -> x.reserved(0, true));
        Due.is("10: keeps what it has", 0, x.known(2, 1));
        x.call(0, 2, 1, 3);
        Due.is("10: gets no new ones", 1, x.known(3, 1));
        Due.is("10: but works, as does the other", 5, x.step(10));
        Due.is("10: none any more", 0, x.reserved(0, false));
        x.call(3, 0, 1, 1);
        Due.is("10: gets new ones", 0, x.known(4, 1));
        for (int none : NO_LIFT_OF_ONE) {
            LiftRows2 one = Scene.withLifts(3, 0, 10);
            Due.refused("10: no lift " + none, NO_SUCH, () -> one.reserved(none, true));
            Due.refused("10: no lift " + none, NO_SUCH, () -> one.reserved(none, false));
        }
    }

    private static void promise11Freed() {
        LiftRows2 x = new LiftRows2(10);
        Due.is("11: nothing waits", 0, x.freed());
        x.call(1, 2, 1, 5);
        x.call(8, 2, 1, 6);
        x.call(9, 2, 1, 5);
        Due.is("11: no lift", 0, x.freed());
        x.lift(9, 5);
        x.lift(0, 5);
        Due.is("11: those that find one", 2, x.freed());
        Due.is("11: nearest", 1, x.known(0, 1));
        Due.is("11: none is large enough", -1, x.known(1, 1));
        Due.is("11: nearest", 0, x.known(2, 1));
        x.lift(1, 50);
        Due.is("11: only those given to none", 1, x.freed());
        Due.is("11: given before", 1, x.known(0, 1));
        Due.is("11: given now", 2, x.known(1, 1));
        Due.is("11: none is left", 0, x.freed());
    }

    private static void promise12Served() {
        LiftRows2 x = Scene.withLifts(5, 0, 10);
        Due.refused("12: no call yet", NO_SUCH, () -> x.served(0));
        x.call(1, 3, 1, 1);
        Due.is("12: waiting", -1, x.served(0));
        x.step(2);
        Due.is("12: aboard", -1, x.served(0));
        x.step(5);
        Due.is("12: not yet", -1, x.served(0));
        x.step(1);
        Due.is("12: served", 8, x.served(0));
        x.step(50);
        Due.is("12: served then", 8, x.served(0));
        Due.refused("12: below", NO_SUCH, () -> x.served(-1));
        Due.refused("12: above", NO_SUCH, () -> x.served(1));
        Due.refused("12: far above", NO_SUCH, () -> x.served(24));
    }

    private static void promise13Waits() {
        LiftRows2 x = Scene.withLifts(9, 0, 10);
        Due.refused("13: no call yet", NO_SUCH, () -> x.waits(0));
        x.step(10);
        x.call(4, 3, 1, 1);
        Due.is("13: just come", 0, x.waits(0));
        x.step(3);
        Due.is("13: so far", 3, x.waits(0));
        x.step(2);
        Due.is("13: aboard", 5, x.waits(0));
        x.step(2);
        Due.is("13: still 5", 5, x.waits(0));
        x.step(100);
        Due.is("13: served", 2, x.known(0, 0));
        Due.is("13: still 5", 5, x.waits(0));
        x.call(8, 0, 1, 11);
        x.step(200);
        Due.is("13: given to none", 200, x.waits(1));
        Due.refused("13: below", NO_SUCH, () -> x.waits(-1));
        Due.refused("13: above", NO_SUCH, () -> x.waits(2));
        Due.refused("13: far above", NO_SUCH, () -> x.waits(24));
    }

    private static void promise14Least() {
        LiftRows2 x = Scene.withLifts(20, 10, 5);
        Due.is("14: no calls", 0, x.least(0));
        x.call(12, 8, 1, 5);
        Due.is("14: fetched before", 6, x.least(0));
        x.call(9, 13, 1, 5);
        Due.is("14: down, up, down", 10, x.least(0));
        x.call(10, 11, 1, 5);
        Due.is("14: on the way", 10, x.least(0));
        x.call(0, 19, 1, 5);
        Due.is("14: four", 33, x.least(0));
        x.call(10, 11, 1, 5);
        Due.is("14: five", -1, x.least(0));
        Due.is("14: nothing went", 10, x.level(0));
        LiftRows2 doors = Scene.withLifts(20, 3, 5);
        doors.call(3, 7, 1, 5);
        doors.call(4, 2, 1, 5);
        doors.step(1);
        Due.is("14: aboard, capacity and doors are not asked", 8, doors.least(0));
        doors.stuck(0, true);
        Due.is("14: stuck, what waits is not its own", 4, doors.least(0));
        LiftRows2 others = Scene.withLifts(20, 0, 5, 19, 5);
        others.call(1, 2, 1, 5);
        others.call(18, 17, 1, 5);
        Due.is("14: its own calls alone", 2, others.least(0));
        Due.is("14: its own calls alone", 2, others.least(1));
        others.step(50);
        Due.is("14: served ones are not asked", 0, others.least(0));
        for (int none : NO_LIFT_OF_ONE) {
            Due.refused("14: no lift " + none, NO_SUCH, () -> x.least(none));
        }
    }

    private static void promise15Joins() {
        LiftRows2 x = Scene.withLifts(5, 0, 10);
        x.call(1, 2, 1, 1);
        x.call(1, 2, 3, 9);
        x.call(1, 3, 1, 1);
        x.call(3, 2, 1, 1);
        x.call(2, 1, 1, 1);
        x.call(1, 2, 1, 50);
        Due.holds("15: the same way", x.joins(0, 1));
        Due.holds("15: the same way back", x.joins(1, 0));
        Due.holds("15: given or not", x.joins(0, 5));
        Due.holds("15: another last level", !x.joins(0, 2));
        Due.holds("15: another first level", !x.joins(0, 3));
        Due.holds("15: turned round", !x.joins(0, 4));
        Due.refused("15: no first", NO_SUCH, () -> x.joins(6, 0));
        Due.refused("15: no other", NO_SUCH, () -> x.joins(0, 6));
        Due.refused("15: below", NO_SUCH, () -> x.joins(-1, 0));
        Due.refused("15: other below", NO_SUCH, () -> x.joins(0, -1));
        Due.refused("15: far above", NO_SUCH, () -> x.joins(0, 24));
        x.step(2);
        Due.refused("15: the first is aboard", STATE, () -> x.joins(0, 4));
        Due.refused("15: the other is aboard", STATE, () -> x.joins(4, 0));
        Due.refused("15: no other comes before aboard", NO_SUCH, () -> x.joins(0, 6));
        x.step(100);
        Due.is("15: served", 2, x.known(0, 0));
        Due.refused("15: the other is served", STATE, () -> x.joins(5, 0));
    }

    private static void knownIs(String when, LiftRows2 x, int call, int... due) {
        for (int what = 0; what < due.length; what++) {
            Due.is("16: " + when + ", " + what, due[what], x.known(call, what));
        }
    }

    private static void promise16Known() {
        LiftRows2 x = Scene.withLifts(5, 4, 3, 0, 10);
        Due.refused("16: no call yet", NO_SUCH, () -> x.known(0, 0));
        x.call(1, 3, 2, 7);
        x.call(3, 4, 3, 11);
        knownIs("waiting", x, 0, 0, 1, 1, 3, 2, 7);
        knownIs("given to none", x, 1, 0, -1, 3, 4, 3, 11);
        x.step(2);
        knownIs("aboard", x, 0, 1, 1, 1, 3, 2, 7);
        x.step(6);
        knownIs("served", x, 0, 2, 1, 1, 3, 2, 7);
        Due.refused("16: what -1", ARGUMENT, () -> x.known(0, -1));
        Due.refused("16: what 6", ARGUMENT, () -> x.known(0, 6));
        Due.refused("16: below", NO_SUCH, () -> x.known(-1, 0));
        Due.refused("16: above", NO_SUCH, () -> x.known(2, 0));
        Due.refused("16: far above", NO_SUCH, () -> x.known(24, 0));
        Due.refused("16: no call comes before what", NO_SUCH, () -> x.known(2, 6));
    }

    private static void countIs(String when, LiftRows2 x, int... due) {
        for (int what = 0; what < due.length; what++) {
            Due.is("17: " + when + ", " + what, due[what], x.count(what));
        }
    }

    private static void promise17Count() {
        LiftRows2 x = Scene.withLifts(20, 2, 10, 17, 10);
        x.call(0, 3, 1, 10);
        x.call(19, 5, 1, 10);
        x.call(19, 5, 1, 11);
        x.call(0, 1, 1, 10);
        LiftRows2 one = new LiftRows2(4);
        one.call(2, 1, 1, 1);
        countIs("one call", one, 4, 0, 1, 0, 0, 1, 1, 4, 0);
        countIs("called", x, 20, 2, 4, 0, 0, 4, 1, 1 << 19 | 1, 0);
        x.step(3);
        countIs("aboard", x, 20, 2, 4, 2, 3, 2, 1, 1 << 19 | 1, 4);
        x.step(4);
        countIs("on the way", x, 20, 2, 4, 2, 7, 2, 1, 1 << 19 | 1, 6);
        x.step(100);
        countIs("served", x, 20, 2, 4, 6, 107, 1, 1, 1 << 19, 2 + 3 + 3 + 1 + 2 + 14);
        for (int what : new int[] {-1, 9, 10, Integer.MIN_VALUE, Integer.MAX_VALUE}) {
            Due.is("17: another what " + what, -1, x.count(what));
        }
    }

    /** Four lifts and 24 calls: every row is used to its last place, and nothing is thrown. */
    private static void withAllRowsFull() {
        LiftRows2 x = Scene.withLifts(20, 0, 50, 19, 50, 0, 1, 19, 1);
        for (int i = 0; i < 20; i++) {
            x.call(i, 19 - i, i % 3 + 1, 2);
        }
        for (int i = 0; i < 4; i++) {
            x.call(0, 19, 1, 1);
        }
        x.reserved(0, true);
        x.stuck(0, true);
        x.stuck(1, true);
        Due.is("full: given to none", 20, x.count(6));
        Due.is("full: those that fit the small ones", 4, x.told(2, 4));
        Due.is("full: least of four", 19, x.least(2));
        Due.is("full: none for it", 0, x.freed());
        x.stuck(0, false);
        x.stuck(1, false);
        Due.is("full: freed", 20, x.freed());
        Due.is("full: all levels wait", (1 << 20) - 1, x.count(7));
        Due.is("full: more than four", -1, x.least(1));
        Due.is("full: the reserved one has none", 0, x.told(0, 4));
        int sum = 0;
        for (int i = 0; i < 5; i++) {
            sum += x.step(200);
        }
        Due.is("full: all are served", 48, sum);
        Due.is("full: none waits", 0, x.count(5));
        Due.is("full: the last event", 1, x.event(47, 3));
        Due.is("full: the last call", 2, x.known(23, 0));
        Due.is("full: nothing to go for", 0, x.least(2));
    }
}
