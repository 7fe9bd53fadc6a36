import java.util.NoSuchElementException;
import java.util.function.Consumer;
import java.util.function.Supplier;

/**
 * Each refusal that the document lists, the first that holds where several do, and that a refused call leaves
 * all as it was.
 */
public final class RefusalsTest {
    private static final Class<IllegalArgumentException> ARGUMENT = IllegalArgumentException.class;
    private static final Class<IllegalStateException> STATE = IllegalStateException.class;
    private static final Class<NoSuchElementException> NO_SUCH = NoSuchElementException.class;
    private static final Class<UnsupportedOperationException> NO_ROOM = UnsupportedOperationException.class;
    private static final Class<ArrayIndexOutOfBoundsException> NO_INDEX = ArrayIndexOutOfBoundsException.class;

    /** Far from every range; the last ones would fall into a range if a number were cut to a byte or a short. */
    private static final int[] FAR = {Integer.MIN_VALUE, Integer.MIN_VALUE + 1, -65535, -255, -100, 100, 257, 65537,
        1 << 24 | 1, Integer.MAX_VALUE - 1, Integer.MAX_VALUE};

    public static void main(String[] args) {
        lift();
        call();
        step();
        event();
        level();
        told();
        door();
        stuck();
        reserved();
        servedAndWaits();
        least();
        joins();
        known();
        neverRefused();
        Due.end();
    }

    private static void refused(String what, Class<? extends RuntimeException> want, Supplier<LiftRows2> scene,
            Consumer<LiftRows2> act) {
        LiftRows2 x = scene.get();
        LiftRows2 untouched = scene.get();
        Due.refused(what, want, () -> act.accept(x));
        Due.same(what + ", then all", Picture.of(untouched), Picture.of(x));
        Due.same(what + ", then later", Picture.later(untouched), Picture.later(x));
    }

    /** The first number below a range, the first above it, and some far from it. */
    private static int[] beside(int first, int last) {
        int[] numbers = new int[FAR.length + 2];
        numbers[0] = first - 1;
        numbers[1] = last + 1;
        System.arraycopy(FAR, 0, numbers, 2, FAR.length);
        return numbers;
    }

    private static LiftRows2 empty() {
        return new LiftRows2(10);
    }

    private static void lift() {
        Due.sentence("lift: IllegalArgumentException: another number outside its range");
        for (int wrong : beside(0, 9)) {
            refused("level " + wrong, ARGUMENT, RefusalsTest::empty, x -> x.lift(wrong, 10));
            refused("level " + wrong, ARGUMENT, Scene::ofEachState, x -> x.lift(wrong, 10));
        }
        for (int wrong : beside(1, 50)) {
            refused("capacity " + wrong, ARGUMENT, RefusalsTest::empty, x -> x.lift(0, wrong));
            refused("capacity " + wrong, ARGUMENT, Scene::ofEachState, x -> x.lift(9, wrong));
        }
        Due.sentence("lift: UnsupportedOperationException: no room");
        refused("a fifth", NO_ROOM, Scene::withAllLifts, x -> x.lift(0, 1));
        refused("a fifth", NO_ROOM, Scene::withAllLifts, x -> x.lift(9, 50));
        Due.sentence("lift: REFUSALS, the first that holds");
        refused("no room, level -1", ARGUMENT, Scene::withAllLifts, x -> x.lift(-1, 10));
        refused("no room, level 10", ARGUMENT, Scene::withAllLifts, x -> x.lift(10, 10));
        refused("no room, capacity 0", ARGUMENT, Scene::withAllLifts, x -> x.lift(0, 0));
        refused("no room, capacity 51", ARGUMENT, Scene::withAllLifts, x -> x.lift(0, 51));
    }

    private static void call() {
        Due.sentence("call: IllegalArgumentException: another number outside its range");
        for (int wrong : beside(0, 9)) {
            refused("from " + wrong, ARGUMENT, RefusalsTest::empty, x -> x.call(wrong, 1, 1, 1));
            refused("to " + wrong, ARGUMENT, Scene::ofEachState, x -> x.call(1, wrong, 1, 1));
        }
        for (int wrong : beside(1, 3)) {
            refused("rank " + wrong, ARGUMENT, Scene::ofEachState, x -> x.call(1, 2, wrong, 1));
        }
        for (int wrong : beside(1, 50)) {
            refused("load " + wrong, ARGUMENT, Scene::ofEachState, x -> x.call(1, 2, 1, wrong));
        }
        Due.sentence("call: IllegalArgumentException: also from a level to itself");
        for (int level = -1; level <= 10; level++) {
            int itself = level;
            refused("from and to " + itself, ARGUMENT, Scene::ofEachState, x -> x.call(itself, itself, 1, 1));
        }
        Due.sentence("call: UnsupportedOperationException: no room");
        refused("a 25th", NO_ROOM, Scene::withAllCalls, x -> x.call(0, 1, 1, 1));
        refused("a 25th", NO_ROOM, Scene::withAllCalls, x -> x.call(9, 0, 3, 50));
        Due.sentence("call: REFUSALS, the first that holds");
        refused("no room, from -1", ARGUMENT, Scene::withAllCalls, x -> x.call(-1, 1, 1, 1));
        refused("no room, from 10", ARGUMENT, Scene::withAllCalls, x -> x.call(10, 1, 1, 1));
        refused("no room, to -1", ARGUMENT, Scene::withAllCalls, x -> x.call(1, -1, 1, 1));
        refused("no room, to 10", ARGUMENT, Scene::withAllCalls, x -> x.call(1, 10, 1, 1));
        refused("no room, rank 0", ARGUMENT, Scene::withAllCalls, x -> x.call(1, 2, 0, 1));
        refused("no room, rank 4", ARGUMENT, Scene::withAllCalls, x -> x.call(1, 2, 4, 1));
        refused("no room, load 0", ARGUMENT, Scene::withAllCalls, x -> x.call(1, 2, 1, 0));
        refused("no room, load 51", ARGUMENT, Scene::withAllCalls, x -> x.call(1, 2, 1, 51));
        refused("no room, to itself", ARGUMENT, Scene::withAllCalls, x -> x.call(1, 1, 1, 1));
    }

    private static void step() {
        Due.sentence("step: So many seconds (0 .. 200); IllegalArgumentException");
        for (int wrong : new int[] {Integer.MIN_VALUE, -65535, -255, -2, -1, 201, 202, 256, 257, 65537, 1 << 24 | 1,
            Integer.MAX_VALUE}) {
            refused("step " + wrong, ARGUMENT, RefusalsTest::empty, x -> x.step(wrong));
            refused("step " + wrong, ARGUMENT, Scene::ofEachState, x -> x.step(wrong));
        }
    }

    private static void event() {
        Due.sentence("event: NoSuchElementException: there is none");
        for (int none : beside(0, -1)) {
            refused("none yet, " + none, NO_SUCH, RefusalsTest::empty, x -> x.event(none, 0));
        }
        for (int none : beside(0, 2)) {
            for (int what = 0; what <= 3; what++) {
                int asked = what;
                refused("event " + none, NO_SUCH, Scene::ofEachState, x -> x.event(none, asked));
            }
        }
        Due.sentence("event: IllegalArgumentException");
        for (int wrong : beside(0, 3)) {
            refused("first event, what " + wrong, ARGUMENT, Scene::ofEachState, x -> x.event(0, wrong));
            refused("last event, what " + wrong, ARGUMENT, Scene::ofEachState, x -> x.event(2, wrong));
        }
        Due.sentence("event: REFUSALS, the first that holds");
        refused("none yet, what 4", NO_SUCH, RefusalsTest::empty, x -> x.event(0, 4));
        refused("event -1, what -1", NO_SUCH, Scene::ofEachState, x -> x.event(-1, -1));
        refused("event 3, what 4", NO_SUCH, Scene::ofEachState, x -> x.event(3, 4));
    }

    private static void level() {
        Due.sentence("level: ArrayIndexOutOfBoundsException: there is no such lift among the four that there may be");
        for (int never : beside(0, 3)) {
            refused("no lift, " + never, NO_INDEX, RefusalsTest::empty, x -> x.level(never));
            refused("two lifts, " + never, NO_INDEX, Scene::ofEachState, x -> x.level(never));
            refused("four lifts, " + never, NO_INDEX, Scene::withAllLifts, x -> x.level(never));
        }
        Due.sentence("level: NoSuchElementException: it did not come yet");
        for (int lift = 0; lift <= 3; lift++) {
            int none = lift;
            refused("no lift, " + none, NO_SUCH, RefusalsTest::empty, x -> x.level(none));
        }
        refused("two lifts, 2", NO_SUCH, Scene::ofEachState, x -> x.level(2));
        refused("two lifts, 3", NO_SUCH, Scene::ofEachState, x -> x.level(3));
    }

    /** A lift that there is not, for a call that names a lift. */
    private static void noLift(Consumer<LiftRows2> ofMinusOne, Consumer<LiftRows2> of0, Consumer<LiftRows2> of2,
            Consumer<LiftRows2> of3, Consumer<LiftRows2> of4) {
        refused("no lift, -1", NO_SUCH, RefusalsTest::empty, ofMinusOne);
        refused("no lift, 0", NO_SUCH, RefusalsTest::empty, of0);
        refused("no lift, 3", NO_SUCH, RefusalsTest::empty, of3);
        refused("no lift, 4", NO_SUCH, RefusalsTest::empty, of4);
        refused("two lifts, -1", NO_SUCH, Scene::ofEachState, ofMinusOne);
        refused("two lifts, 2", NO_SUCH, Scene::ofEachState, of2);
        refused("two lifts, 3", NO_SUCH, Scene::ofEachState, of3);
        refused("two lifts, 4", NO_SUCH, Scene::ofEachState, of4);
        refused("four lifts, -1", NO_SUCH, Scene::withAllLifts, ofMinusOne);
        refused("four lifts, 4", NO_SUCH, Scene::withAllLifts, of4);
    }

    private static void told() {
        Due.sentence("told: NoSuchElementException");
        for (int what = 0; what <= 7; what++) {
            int w = what;
            noLift(x -> x.told(-1, w), x -> x.told(0, w), x -> x.told(2, w), x -> x.told(3, w), x -> x.told(4, w));
        }
        for (int none : FAR) {
            refused("lift " + none, NO_SUCH, Scene::withAllLifts, x -> x.told(none, 0));
        }
        Due.sentence("told: IllegalArgumentException");
        for (int wrong : beside(0, 7)) {
            refused("first lift, what " + wrong, ARGUMENT, Scene::ofEachState, x -> x.told(0, wrong));
            refused("last lift, what " + wrong, ARGUMENT, Scene::ofEachState, x -> x.told(1, wrong));
        }
        Due.sentence("told: REFUSALS, the first that holds");
        noLift(x -> x.told(-1, -1), x -> x.told(0, 8), x -> x.told(2, -1), x -> x.told(3, 8), x -> x.told(4, 8));
    }

    private static void door() {
        // Of a lift that there is not either switch would also be "as it is now", or its door shut.
        Due.sentence("door: NoSuchElementException, the first that holds");
        noLift(x -> x.door(-1, true), x -> x.door(0, true), x -> x.door(2, true), x -> x.door(3, true),
                x -> x.door(4, true));
        noLift(x -> x.door(-1, false), x -> x.door(0, false), x -> x.door(2, false), x -> x.door(3, false),
                x -> x.door(4, false));
        for (int none : FAR) {
            refused("lift " + none, NO_SUCH, Scene::withAllLifts, x -> x.door(none, true));
        }
        Due.sentence("door: IllegalStateException: it is so");
        refused("shut and not kept", STATE, Scene::ofEachState, x -> x.door(1, false));
        refused("open and not kept", STATE, Scene::ofEachState, x -> x.door(0, false));
        refused("kept", STATE, RefusalsTest::withKeptDoor, x -> x.door(0, true));
        refused("kept and stuck", STATE, RefusalsTest::withKeptDoorStuck, x -> x.door(0, true));
        Due.sentence("door: IllegalStateException: (on) the door is shut");
        refused("never opened", STATE, Scene::ofEachState, x -> x.door(1, true));
        refused("just shut", STATE, RefusalsTest::withDoorJustShut, x -> x.door(0, true));
    }

    private static LiftRows2 withKeptDoor() {
        LiftRows2 x = Scene.ofEachState();
        x.door(0, true);
        return x;
    }

    private static LiftRows2 withKeptDoorStuck() {
        LiftRows2 x = withKeptDoor();
        x.stuck(0, true);
        return x;
    }

    private static LiftRows2 withDoorJustShut() {
        LiftRows2 x = Scene.ofEachState();
        x.step(3);
        return x;
    }

    private static LiftRows2 withStuck() {
        LiftRows2 x = Scene.ofEachState();
        x.stuck(0, true);
        x.stuck(1, true);
        return x;
    }

    private static LiftRows2 withReserved() {
        LiftRows2 x = Scene.ofEachState();
        x.reserved(0, true);
        x.reserved(1, true);
        return x;
    }

    private static void stuck() {
        Due.sentence("stuck: NoSuchElementException, the first that holds");
        noLift(x -> x.stuck(-1, true), x -> x.stuck(0, true), x -> x.stuck(2, true), x -> x.stuck(3, true),
                x -> x.stuck(4, true));
        noLift(x -> x.stuck(-1, false), x -> x.stuck(0, false), x -> x.stuck(2, false), x -> x.stuck(3, false),
                x -> x.stuck(4, false));
        for (int none : FAR) {
            refused("lift " + none, NO_SUCH, Scene::withAllLifts, x -> x.stuck(none, true));
        }
        Due.sentence("stuck: IllegalStateException: it is so");
        for (int lift = 0; lift <= 1; lift++) {
            int one = lift;
            refused("works, " + one, STATE, Scene::ofEachState, x -> x.stuck(one, false));
            refused("reserved, but works, " + one, STATE, RefusalsTest::withReserved, x -> x.stuck(one, false));
            refused("is stuck, " + one, STATE, RefusalsTest::withStuck, x -> x.stuck(one, true));
        }
    }

    private static void reserved() {
        Due.sentence("reserved: NoSuchElementException, the first that holds");
        noLift(x -> x.reserved(-1, true), x -> x.reserved(0, true), x -> x.reserved(2, true),
                x -> x.reserved(3, true), x -> x.reserved(4, true));
        noLift(x -> x.reserved(-1, false), x -> x.reserved(0, false), x -> x.reserved(2, false),
                x -> x.reserved(3, false), x -> x.reserved(4, false));
        for (int none : FAR) {
            refused("lift " + none, NO_SUCH, Scene::withAllLifts, x -> x.reserved(none, true));
        }
        Due.sentence("reserved: IllegalStateException: it is so");
        for (int lift = 0; lift <= 1; lift++) {
            int one = lift;
            refused("is not, " + one, STATE, Scene::ofEachState, x -> x.reserved(one, false));
            refused("stuck, but is not, " + one, STATE, RefusalsTest::withStuck, x -> x.reserved(one, false));
            refused("is, " + one, STATE, RefusalsTest::withReserved, x -> x.reserved(one, true));
        }
    }

    private static void servedAndWaits() {
        Due.sentence("served: NoSuchElementException");
        for (int none : beside(0, -1)) {
            refused("no call yet, " + none, NO_SUCH, RefusalsTest::empty, x -> x.served(none));
        }
        for (int none : beside(0, 3)) {
            refused("four calls, " + none, NO_SUCH, Scene::ofEachState, x -> x.served(none));
        }
        refused("24 calls, 24", NO_SUCH, Scene::withAllCalls, x -> x.served(24));
        refused("24 calls, -1", NO_SUCH, Scene::withAllCalls, x -> x.served(-1));
        Due.sentence("waits: NoSuchElementException");
        for (int none : beside(0, -1)) {
            refused("no call yet, " + none, NO_SUCH, RefusalsTest::empty, x -> x.waits(none));
        }
        for (int none : beside(0, 3)) {
            refused("four calls, " + none, NO_SUCH, Scene::ofEachState, x -> x.waits(none));
        }
        refused("24 calls, 24", NO_SUCH, Scene::withAllCalls, x -> x.waits(24));
        refused("24 calls, -1", NO_SUCH, Scene::withAllCalls, x -> x.waits(-1));
    }

    private static void least() {
        Due.sentence("least: NoSuchElementException");
        noLift(x -> x.least(-1), x -> x.least(0), x -> x.least(2), x -> x.least(3), x -> x.least(4));
        for (int none : FAR) {
            refused("lift " + none, NO_SUCH, Scene::withAllLifts, x -> x.least(none));
        }
    }

    private static void joins() {
        Due.sentence("joins: NoSuchElementException");
        refused("no call yet", NO_SUCH, RefusalsTest::empty, x -> x.joins(0, 0));
        for (int none : beside(0, 3)) {
            refused("call " + none, NO_SUCH, Scene::ofEachState, x -> x.joins(none, 2));
            refused("other " + none, NO_SUCH, Scene::ofEachState, x -> x.joins(2, none));
            refused("both " + none, NO_SUCH, Scene::ofEachState, x -> x.joins(none, none));
        }
        refused("24 calls, 24", NO_SUCH, Scene::withAllCalls, x -> x.joins(24, 0));
        refused("24 calls, other 24", NO_SUCH, Scene::withAllCalls, x -> x.joins(0, 24));
        Due.sentence("joins: IllegalStateException: one of them is not waiting");
        for (int i = 0; i <= 1; i++) {
            int gone = i;
            refused("call " + gone, STATE, Scene::ofEachState, x -> x.joins(gone, 2));
            refused("other " + gone, STATE, Scene::ofEachState, x -> x.joins(2, gone));
            refused("call " + gone + ", not given", STATE, Scene::ofEachState, x -> x.joins(gone, 3));
            refused("itself " + gone, STATE, Scene::ofEachState, x -> x.joins(gone, gone));
        }
        refused("neither", STATE, Scene::ofEachState, x -> x.joins(0, 1));
        refused("neither", STATE, Scene::ofEachState, x -> x.joins(1, 0));
        Due.sentence("joins: REFUSALS, the first that holds");
        for (int i = 0; i <= 1; i++) {
            int gone = i;
            refused("call " + gone + ", no other", NO_SUCH, Scene::ofEachState, x -> x.joins(gone, 4));
            refused("call " + gone + ", other -1", NO_SUCH, Scene::ofEachState, x -> x.joins(gone, -1));
            refused("no call, other " + gone, NO_SUCH, Scene::ofEachState, x -> x.joins(4, gone));
            refused("call -1, other " + gone, NO_SUCH, Scene::ofEachState, x -> x.joins(-1, gone));
        }
    }

    private static void known() {
        Due.sentence("known: NoSuchElementException");
        for (int none : beside(0, -1)) {
            refused("no call yet, " + none, NO_SUCH, RefusalsTest::empty, x -> x.known(none, 0));
        }
        for (int none : beside(0, 3)) {
            for (int what = 0; what <= 5; what++) {
                int asked = what;
                refused("call " + none, NO_SUCH, Scene::ofEachState, x -> x.known(none, asked));
            }
        }
        refused("24 calls, 24", NO_SUCH, Scene::withAllCalls, x -> x.known(24, 0));
        Due.sentence("known: IllegalArgumentException");
        for (int wrong : beside(0, 5)) {
            refused("first call, what " + wrong, ARGUMENT, Scene::ofEachState, x -> x.known(0, wrong));
            refused("last call, what " + wrong, ARGUMENT, Scene::ofEachState, x -> x.known(3, wrong));
        }
        Due.sentence("known: REFUSALS, the first that holds");
        refused("no call yet, what 6", NO_SUCH, RefusalsTest::empty, x -> x.known(0, 6));
        refused("call -1, what -1", NO_SUCH, Scene::ofEachState, x -> x.known(-1, -1));
        refused("call 4, what 6", NO_SUCH, Scene::ofEachState, x -> x.known(4, 6));
        refused("24 calls, 24, what 6", NO_SUCH, Scene::withAllCalls, x -> x.known(24, 6));
    }

    private static void neverRefused() {
        Due.sentence("count: -1 for another what");
        for (int what : beside(0, 8)) {
            Due.is("empty, what " + what, -1, empty().count(what));
            Due.is("what " + what, -1, Scene.ofEachState().count(what));
        }
        Due.sentence("freed refuses nothing");
        Due.same("empty", "0", Due.told(() -> empty().freed()));
        Due.same("with calls", "0", Due.told(() -> Scene.ofEachState().freed()));
        Due.sentence("a new object refuses nothing");
        for (int levels : FAR) {
            Due.same("levels " + levels, "", Due.thrownBy(() -> new LiftRows2(levels)));
        }
    }
}
