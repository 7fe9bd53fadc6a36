import java.util.NoSuchElementException;

/** The sentences of the promises that name a boundary case, each with a test of its own; refusals: RefusalsTest. */
public final class PromiseEdgesTest {
    private static final Class<NoSuchElementException> NO_SUCH = NoSuchElementException.class;

    public static void main(String[] args) {
        newObject();
        lift();
        call();
        stepSeconds();
        stepEvents();
        eventNumbers();
        allEvents();
        level();
        toldOfLoads();
        toldOfCalls();
        toldOfSwitches();
        doorKept();
        doorNotAnyMore();
        stuckAboard();
        stuckGivenAnew();
        stuckWorksAgain();
        reservedKeeps();
        reservedHowMany();
        freed();
        freedAsIfTheyCame();
        served();
        waits();
        leastOfNone();
        leastOfMoreThanFour();
        leastFetchesBefore();
        leastDoesNotAsk();
        joins();
        known();
        countOfEach();
        countOfLevels();
        countOfGone();
        Due.end();
    }

    private static void newObject() {
        Due.sentence("1: So many levels");
        LiftRows2 x = new LiftRows2(7);
        int[] due = {7, 0, 0, 0, 0, 0, 0, 0, 0};
        for (int what = 0; what <= 8; what++) {
            Due.is("count " + what, due[what], x.count(what));
        }
        LiftRows2 other = new LiftRows2(9);
        other.lift(8, 1);
        other.call(8, 7, 1, 1);
        other.step(1);
        Due.is("objects have nothing in common", 0, x.count(1) + x.count(2) + x.count(3) + x.count(4));
        Due.is("objects have nothing in common", 7, x.count(0));
    }

    private static void lift() {
        Due.sentence("2: A lift at a level: its number");
        LiftRows2 x = new LiftRows2(20);
        int[] levels = {0, 19, 10, 0};
        for (int lift = 0; lift < 4; lift++) {
            Due.is("its number", lift, x.lift(levels[lift], lift == 0 ? 1 : 50));
            Due.is("its level", levels[lift], x.level(lift));
        }
        LiftRows2 late = Scene.withLifts(20, 0, 9);
        late.call(3, 4, 1, 1);
        late.step(50);
        Due.is("at any time", 1, late.lift(19, 9));
        late.call(19, 18, 1, 1);
        Due.is("a late one works", 1, late.step(1));
        Due.is("which it is", 1, late.event(2, 1));
    }

    private static void call() {
        Due.sentence("3: A call: its number");
        LiftRows2 x = Scene.withLifts(20, 5, 9);
        Due.is("first", 0, x.call(0, 19, 1, 1));
        x.step(100);
        Due.is("after one was served", 2, x.known(0, 0));
        Due.is("second", 1, x.call(0, 19, 1, 1));
        Due.is("the same again", 2, x.call(0, 19, 1, 1));
        Due.is("one for none", 3, x.call(0, 19, 3, 50));
        Due.is("waits", 0, x.known(3, 0));
    }

    private static void stepSeconds() {
        Due.sentence("4: So many seconds (0 .. 200)");
        LiftRows2 x = Scene.withLifts(20, 0, 9);
        x.call(0, 19, 1, 1);
        Due.is("0", 0, x.step(0));
        Due.is("0: no time", 0, x.count(4));
        Due.is("0: nothing is done", 0, x.known(0, 0));
        Due.is("1", 1, x.step(1));
        Due.is("1: time", 1, x.count(4));
        Due.is("0 between", 0, x.step(0));
        Due.is("0: the door is as it was", 3, x.told(0, 2));
        Due.is("199", 1, x.step(199));
        Due.is("199: time", 200, x.count(4));
        Due.is("200", 0, x.step(200));
        Due.is("200: time", 400, x.count(4));
        LiftRows2 parts = Scene.withAllCalls();
        for (int i = 0; i < 200; i++) {
            parts.step(1);
        }
        LiftRows2 whole = Scene.withAllCalls();
        whole.step(200);
        for (int what = 0; what <= 8; what++) {
            Due.is("200 seconds are 200 times one, count " + what, parts.count(what), whole.count(what));
        }
        Due.is("200 seconds are 200 times one, level", parts.level(0), whole.level(0));
    }

    private static void stepEvents() {
        Due.sentence("4: how many events there were");
        LiftRows2 x = Scene.withLifts(9, 0, 10, 8, 10);
        Due.is("none without calls", 0, x.step(200));
        x.call(0, 2, 1, 10);
        x.call(2, 3, 1, 10);
        x.call(8, 7, 1, 10);
        Due.is("both lifts in one second", 2, x.step(1));
        Due.is("none", 0, x.step(4));
        Due.is("of this call alone, lift 1 serves", 1, x.step(1));
        Due.is("one served and one aboard", 2, x.step(1));
        Due.is("the last", 1, x.step(200));
        Due.is("none any more", 0, x.step(200));
        Due.is("together", 6, x.count(3));
    }

    private static void eventNumbers() {
        Due.sentence("5: Of event i 0 its second, 1 the lift, 2 the call, 3 its kind");
        LiftRows2 x = Scene.withLifts(20, 0, 1, 0, 1, 0, 1, 19, 9);
        for (int i = 0; i < 3; i++) {
            x.call(19, 18, 1, 1);
        }
        x.step(2);
        x.call(19, 17, 1, 6);
        Due.is("so many more", 5, x.step(20));
        int[][] due = {{1, 3, 0, 0}, {1, 3, 1, 0}, {1, 3, 2, 0}, {5, 3, 3, 0}, {10, 3, 0, 1}, {10, 3, 1, 1},
            {10, 3, 2, 1}, {15, 3, 3, 1}};
        Due.is("so many", due.length, x.count(3));
        for (int i = 0; i < due.length; i++) {
            for (int what = 0; what < 4; what++) {
                Due.is("event " + i + ", " + what, due[i][what], x.event(i, what));
            }
        }
    }

    private static void allEvents() {
        Due.sentence("5: all 48 events that there may be are kept");
        LiftRows2 x = Scene.withLifts(2, 0, 50);
        for (int i = 0; i < 24; i++) {
            x.call(0, 1, 1, 2);
        }
        Due.is("all", 48, x.step(6));
        for (int i = 0; i < 48; i++) {
            Due.is("second of " + i, i < 24 ? 1 : 6, x.event(i, 0));
            Due.is("lift of " + i, 0, x.event(i, 1));
            Due.is("call of " + i, i % 24, x.event(i, 2));
            Due.is("kind of " + i, i < 24 ? 0 : 1, x.event(i, 3));
        }
        Due.refused("none behind the last", NO_SUCH, () -> x.event(48, 0));
    }

    private static void level() {
        Due.sentence("6: The level at which a lift is");
        LiftRows2 x = new LiftRows2(20);
        for (int lift = 0; lift < 4; lift++) {
            int next = lift;
            Due.refused("it did not come yet", NO_SUCH, () -> x.level(next));
            x.lift(lift == 3 ? 19 : lift, 9);
            Due.is("it came", lift == 3 ? 19 : lift, x.level(lift));
        }
        x.call(0, 1, 1, 1);
        x.call(19, 18, 1, 1);
        x.step(5);
        int[] due = {1, 1, 2, 18};
        for (int lift = 0; lift < 4; lift++) {
            Due.is("lift " + lift, due[lift], x.level(lift));
        }
    }

    private static void toldOfLoads() {
        Due.sentence("7: 0 what is aboard (load), 3 calls aboard");
        LiftRows2 x = Scene.withLifts(9, 0, 50);
        x.call(0, 1, 1, 20);
        x.call(0, 2, 1, 30);
        Due.is("none yet", 0, x.told(0, 0));
        Due.is("none yet, calls", 0, x.told(0, 3));
        x.step(1);
        Due.is("full", 50, x.told(0, 0));
        Due.is("full, calls", 2, x.told(0, 3));
        x.step(5);
        Due.is("one got out", 30, x.told(0, 0));
        Due.is("one got out, calls", 1, x.told(0, 3));
        x.step(5);
        Due.is("none any more", 0, x.told(0, 0));
        Due.is("none any more, calls", 0, x.told(0, 3));
        LiftRows2 all = Scene.withLifts(9, 0, 48);
        for (int i = 0; i < 24; i++) {
            all.call(0, 1, 1, 2);
        }
        all.step(1);
        Due.is("all 24", 48, all.told(0, 0));
        Due.is("all 24, calls", 24, all.told(0, 3));
    }

    private static void toldOfCalls() {
        Due.sentence("7: 4 waiting calls given to it");
        LiftRows2 x = Scene.withLifts(9, 0, 10, 8, 20);
        for (int i = 0; i < 21; i++) {
            x.call(1, 2, 1, 10);
        }
        x.call(7, 6, 1, 10);
        x.call(1, 2, 1, 11);
        x.call(1, 2, 1, 21);
        Due.is("of lift 0", 21, x.told(0, 4));
        Due.is("of lift 1, the nearest and the only", 2, x.told(1, 4));
        x.step(2);
        Due.is("one aboard waits no more", 20, x.told(0, 4));
        Due.is("one aboard waits no more", 1, x.told(1, 4));
    }

    private static void toldOfSwitches() {
        Due.sentence("7: 5 whether it is stuck, 6 reserved, 7 its door kept open");
        for (int set = 0; set < 8; set++) {
            LiftRows2 x = Scene.withLifts(9, 0, 10, 0, 10);
            x.call(0, 1, 1, 1);
            x.step(1);
            if ((set & 1) != 0) {
                x.stuck(0, true);
            }
            if ((set & 2) != 0) {
                x.reserved(0, true);
            }
            if ((set & 4) != 0) {
                x.door(0, true);
            }
            Due.is("stuck of " + set, set & 1, x.told(0, 5));
            Due.is("reserved of " + set, set >> 1 & 1, x.told(0, 6));
            Due.is("kept of " + set, set >> 2, x.told(0, 7));
            Due.is("the other lift has none", 0, x.told(1, 5) + x.told(1, 6) + x.told(1, 7));
        }
    }

    private static LiftRows2 withDoorOpenFor(int seconds) {
        LiftRows2 x = Scene.withLifts(9, 4, 10);
        x.call(4, 5, 1, 1);
        x.step(4 - seconds);
        return x;
    }

    private static void doorKept() {
        Due.sentence("8: A lift's door is kept open");
        for (int open = 1; open <= 3; open++) {
            LiftRows2 x = withDoorOpenFor(open);
            x.door(0, true);
            Due.is("kept", 1, x.told(0, 7));
            Due.is("the seconds are as they were", open, x.told(0, 2));
            x.step(50);
            Due.is("open", 1, x.told(0, 2));
            Due.is("kept yet", 1, x.told(0, 7));
        }
        LiftRows2 stuck = withDoorOpenFor(2);
        stuck.stuck(0, true);
        Due.same("of a stuck lift, too", "", Due.thrownBy(() -> stuck.door(0, true)));
        stuck.step(9);
        Due.is("a stuck lift's seconds stay", 2, stuck.told(0, 2));
        Due.same("and no more", "", Due.thrownBy(() -> stuck.door(0, false)));
        Due.is("not kept", 0, stuck.told(0, 7));
    }

    private static void doorNotAnyMore() {
        Due.sentence("8: or not any more (an open door with no seconds to come is shut by the next second)");
        LiftRows2 x = withDoorOpenFor(3);
        x.door(0, true);
        x.step(10);
        x.door(0, false);
        Due.is("open till the next second", 1, x.told(0, 2));
        x.step(1);
        Due.is("shut by it", 0, x.told(0, 2));
        Due.is("which does that alone", 4, x.level(0));
        x.step(1);
        Due.is("goes then", 5, x.level(0));
        for (int open = 1; open <= 3; open++) {
            LiftRows2 soon = withDoorOpenFor(open);
            soon.door(0, true);
            soon.door(0, false);
            soon.step(open - 1);
            Due.is("its seconds run on", 1, soon.told(0, 2));
            soon.step(1);
            Due.is("and out", 0, soon.told(0, 2));
        }
        LiftRows2 again = withDoorOpenFor(3);
        again.door(0, true);
        again.step(10);
        again.door(0, false);
        again.door(0, true);
        again.step(10);
        Due.is("kept again in its last second", 1, again.told(0, 2));
    }

    private static void stuckAboard() {
        Due.sentence("9: how many calls are aboard");
        for (int aboard = 0; aboard <= 24; aboard += 8) {
            LiftRows2 x = Scene.withLifts(9, 0, 50);
            for (int i = 0; i < aboard; i++) {
                x.call(0, 1, 1, 2);
            }
            x.step(1);
            Due.is("gets stuck", aboard, x.stuck(0, true));
            Due.is("works again", aboard, x.stuck(0, false));
            Due.is("they are aboard yet", aboard, x.told(0, 3));
        }
        LiftRows2 waiting = Scene.withLifts(9, 0, 50);
        waiting.call(1, 2, 1, 1);
        Due.is("one that waits is not aboard", 0, waiting.stuck(0, true));
        LiftRows2 two = Scene.withLifts(9, 0, 50, 8, 50);
        two.call(0, 1, 1, 1);
        two.step(1);
        Due.is("aboard the other", 0, two.stuck(1, true));
        two.step(20);
        Due.is("served ones are not aboard", 0, two.stuck(0, true));
    }

    private static void stuckGivenAnew() {
        Due.sentence("9: Waiting calls that were given to one that gets stuck are given anew");
        LiftRows2 x = Scene.withLifts(20, 10, 9, 0, 8, 19, 7);
        int[] loads = {7, 8, 9};
        for (int load : loads) {
            x.call(11, 12, 1, load);
        }
        Due.is("all to lift 0", 3, x.told(0, 4));
        x.stuck(0, true);
        Due.is("the nearest that is left", 2, x.known(0, 1));
        Due.is("the nearest that is large enough", 1, x.known(1, 1));
        Due.is("none is large enough", -1, x.known(2, 1));
        Due.is("none for the stuck one", 0, x.told(0, 4));
        LiftRows2 alone = Scene.withLifts(20, 10, 9);
        alone.call(11, 12, 1, 1);
        alone.stuck(0, true);
        Due.is("no other lift", -1, alone.known(0, 1));
        Due.is("given to none", 1, alone.count(6));
        LiftRows2 none = Scene.withLifts(20, 10, 9, 0, 9, 19, 9);
        none.call(11, 12, 1, 1);
        none.stuck(1, true);
        none.reserved(2, true);
        Due.is("those given to others stay", 0, none.known(0, 1));
        none.stuck(0, true);
        Due.is("the others are stuck or reserved", -1, none.known(0, 1));
        LiftRows2 reserved = Scene.withLifts(20, 10, 9, 0, 9);
        reserved.call(11, 12, 1, 1);
        reserved.reserved(0, true);
        reserved.stuck(0, true);
        Due.is("those of a reserved one, too", 1, reserved.known(0, 1));
        LiftRows2 aboard = Scene.withLifts(20, 10, 9, 0, 9);
        aboard.call(10, 12, 1, 1);
        aboard.step(1);
        aboard.stuck(0, true);
        Due.is("those aboard stay", 0, aboard.known(0, 1));
        Due.is("those given to none before stay so", -1, givenToNoneBefore());
        LiftRows2 first = Scene.withLifts(20, 10, 9, 0, 9, 19, 9);
        first.call(9, 19, 1, 1);
        first.stuck(0, true);
        Due.is("the nearest to its first level, not to its last", 1, first.known(0, 1));
        LiftRows2 equal = Scene.withLifts(20, 10, 9, 15, 9, 5, 9);
        equal.call(10, 5, 1, 1);
        equal.stuck(0, true);
        Due.is("of equal ones the lowest", 1, equal.known(0, 1));
    }

    private static int givenToNoneBefore() {
        LiftRows2 x = Scene.withLifts(20, 10, 9);
        x.call(5, 6, 1, 50);
        x.lift(0, 50);
        x.stuck(0, true);
        return x.known(0, 1);
    }

    private static void stuckWorksAgain() {
        Due.sentence("9: or works again");
        LiftRows2 x = Scene.withLifts(20, 10, 9, 0, 9);
        x.call(11, 12, 1, 1);
        x.stuck(0, true);
        x.stuck(0, false);
        Due.is("what was given anew stays so", 1, x.known(0, 1));
        LiftRows2 none = Scene.withLifts(20, 10, 9);
        none.call(11, 12, 1, 1);
        none.stuck(0, true);
        none.stuck(0, false);
        Due.is("what is given to none stays so", -1, none.known(0, 1));
        Due.is("not stuck", 0, none.told(0, 5));
        none.call(11, 12, 1, 1);
        Due.is("new ones are given to it", 0, none.known(1, 1));
        none.step(1);
        Due.is("and it goes", 11, none.level(0));
    }

    private static void reservedKeeps() {
        Due.sentence("10: it gets no new calls, but keeps those that it has");
        LiftRows2 x = Scene.withLifts(20, 10, 9, 0, 9);
        x.call(10, 12, 1, 1);
        x.step(1);
        x.call(11, 12, 1, 1);
        x.reserved(0, true);
        Due.is("aboard", 1, x.told(0, 3));
        Due.is("waiting", 0, x.known(1, 1));
        x.call(10, 9, 1, 1);
        Due.is("a new one", 1, x.known(2, 1));
        x.stuck(1, true);
        Due.is("one given anew", -1, x.known(2, 1));
        Due.is("one to be given by freed", 0, x.freed());
        x.step(15);
        Due.is("it works", 2, x.known(0, 0));
        Due.is("it works", 2, x.known(1, 0));
        x.reserved(0, false);
        Due.is("what is given to none stays so", -1, x.known(2, 1));
        Due.is("till it is freed", 1, x.freed());
        Due.is("then it is its own", 0, x.known(2, 1));
    }

    private static void reservedHowMany() {
        Due.sentence("10: how many calls it has, aboard and waiting");
        LiftRows2 x = Scene.withLifts(20, 10, 9, 0, 50);
        Due.is("none", 0, x.reserved(0, true));
        Due.is("none", 0, x.reserved(0, false));
        x.call(11, 12, 1, 9);
        Due.is("one waits", 1, x.reserved(0, true));
        x.step(2);
        Due.is("one aboard", 1, x.reserved(0, false));
        for (int i = 0; i < 22; i++) {
            x.call(11, 13, 1, 9);
        }
        x.call(11, 13, 1, 10);
        Due.is("one aboard, 22 wait, one is the other's", 23, x.reserved(0, true));
        Due.is("the other's", 1, x.reserved(1, true));
        x.step(5);
        Due.is("one served", 22, x.reserved(0, false));
    }

    private static void freed() {
        Due.sentence("11: Waiting calls that are given to none are given now: how many were");
        LiftRows2 x = new LiftRows2(20);
        Due.is("no call", 0, x.freed());
        for (int i = 0; i < 24; i++) {
            x.call(i % 20, (i + 1) % 20, 1, i + 1);
        }
        Due.is("no lift", 0, x.freed());
        Due.is("given to none", 24, x.count(6));
        x.lift(10, 12);
        Due.is("those that fit", 12, x.freed());
        Due.is("just so", 0, x.known(11, 1));
        Due.is("one above", -1, x.known(12, 1));
        Due.is("none once more", 0, x.freed());
        x.lift(0, 50);
        Due.is("the others", 12, x.freed());
        Due.is("the last", 1, x.known(23, 1));
        Due.is("those given before stay", 0, x.known(0, 1));
        Due.is("given to none", 0, x.count(6));
        Due.is("all are given", 0, x.freed());
        Due.is("of lift 0", 12, x.told(0, 4));
        Due.is("of lift 1", 12, x.told(1, 4));
    }

    private static void freedAsIfTheyCame() {
        Due.sentence("11: as if they came");
        LiftRows2 x = Scene.withLifts(20, 10, 9, 12, 9, 14, 9);
        for (int lift = 0; lift < 3; lift++) {
            x.reserved(lift, true);
        }
        x.call(13, 5, 1, 1);
        x.step(30);
        Due.is("all are reserved", 0, x.freed());
        x.reserved(2, false);
        x.reserved(1, false);
        Due.is("one", 1, x.freed());
        Due.is("the nearest, of equal ones the lowest", 1, x.known(0, 1));
        Due.is("it came when it came", 30, x.waits(0));
        x.stuck(1, true);
        x.stuck(2, true);
        Due.is("all are stuck or reserved", 0, x.freed());
        Due.is("one is given to none", 1, x.count(6));
        LiftRows2 first = new LiftRows2(20);
        first.call(3, 19, 1, 1);
        first.lift(19, 9);
        first.lift(0, 9);
        first.freed();
        Due.is("the nearest to its first level, not to its last", 1, first.known(0, 1));
        LiftRows2 done = Scene.withLifts(20, 10, 9);
        done.call(10, 11, 1, 1);
        done.step(1);
        Due.is("not those aboard", 0, done.freed());
        done.step(20);
        Due.is("not those served", 0, done.freed());
    }

    private static void served() {
        Due.sentence("12: The second at which a call was served; -1 if it was not yet");
        LiftRows2 x = Scene.withLifts(2, 0, 9);
        x.call(0, 1, 1, 1);
        int[] due = {-1, -1, -1, -1, -1, -1, 6, 6, 6};
        for (int time = 0; time < due.length; time++) {
            Due.is("at " + time, due[time], x.served(0));
            x.step(1);
        }
        x.call(0, 1, 1, 50);
        x.step(200);
        Due.is("given to none", -1, x.served(1));
        LiftRows2 all = Scene.withLifts(2, 0, 50);
        for (int i = 0; i < 24; i++) {
            all.call(0, 1, 1, 2);
        }
        all.step(6);
        for (int i = 0; i < 24; i++) {
            Due.is("call " + i, 6, all.served(i));
        }
    }

    private static void waits() {
        Due.sentence("13: The seconds that a call waited till it came aboard (so far, if it did not yet)");
        LiftRows2 x = Scene.withLifts(9, 2, 9);
        x.call(2, 3, 1, 1);
        Due.is("at once", 0, x.waits(0));
        x.step(1);
        Due.is("aboard in the first second", 1, x.waits(0));
        x.call(2, 1, 1, 1);
        int[] due = {0, 1, 2, 3, 4, 4, 4};
        for (int second = 0; second < due.length; second++) {
            Due.is("second " + second, due[second], x.waits(1));
            x.step(1);
        }
        x.step(50);
        Due.is("served", 2, x.known(1, 0));
        Due.is("served", 4, x.waits(1));
        Due.is("served", 1, x.waits(0));
        x.call(0, 1, 1, 50);
        x.step(200);
        x.step(200);
        Due.is("given to none", 400, x.waits(2));
    }

    private static void leastOfNone() {
        Due.sentence("14: The fewest levels that a lift can go so that all calls are served");
        LiftRows2 x = Scene.withLifts(20, 10, 9, 0, 50);
        Due.is("no call", 0, x.least(0));
        x.call(5, 6, 1, 50);
        Due.is("the other's call", 0, x.least(0));
        x.call(10, 11, 1, 9);
        Due.is("from where it is", 1, x.least(0));
        x.step(1);
        Due.is("aboard", 1, x.least(0));
        x.step(4);
        Due.is("where it wants to", 0, x.least(0));
        x.step(1);
        Due.is("served", 0, x.least(0));
        LiftRows2 far = Scene.withLifts(20, 0, 9);
        for (int i = 0; i < 4; i++) {
            far.call(i % 2 == 0 ? 19 : 0, i % 2 == 0 ? 0 : 19, 1, 9);
        }
        Due.is("from end to end and back", 38, far.least(0));
        LiftRows2 stops = Scene.withLifts(20, 0, 9);
        LiftRows2 down = Scene.withLifts(20, 19, 9);
        for (int i = 0; i < 4; i++) {
            stops.call(2 * i + 1, 2 * i + 2, 1, 9);
            down.call(18 - 2 * i, 17 - 2 * i, 1, 9);
        }
        Due.is("eight stops, each at a level of its own", 8, stops.least(0));
        Due.is("eight stops downward", 8, down.least(0));
    }

    private static void leastOfMoreThanFour() {
        Due.sentence("14: -1 if these are more than 4");
        LiftRows2 x = Scene.withLifts(20, 10, 9, 0, 50);
        int[] due = {1, 1, 1, 1, -1, -1};
        for (int i = 0; i < due.length; i++) {
            x.call(10, 11, 1, 3);
            Due.is("so many wait: " + (i + 1), due[i], x.least(0));
        }
        x.step(1);
        Due.is("three aboard, three wait", -1, x.least(0));
        x.step(5);
        Due.is("three wait yet", 2, x.least(0));
        x.call(11, 12, 1, 9);
        Due.is("four wait", 3, x.least(0));
        x.call(11, 12, 1, 9);
        Due.is("five wait", -1, x.least(0));
        x.call(0, 1, 1, 50);
        Due.is("one of the other", 1, x.least(1));
        LiftRows2 mixed = Scene.withLifts(20, 10, 9);
        mixed.call(10, 12, 1, 5);
        mixed.call(10, 12, 1, 4);
        mixed.step(1);
        mixed.call(11, 12, 1, 1);
        mixed.call(11, 12, 1, 1);
        Due.is("two aboard, two wait", 2, mixed.least(0));
        mixed.call(11, 12, 1, 1);
        Due.is("two aboard, three wait", -1, mixed.least(0));
        mixed.stuck(0, true);
        Due.is("two aboard, three given to none", 2, mixed.least(0));
        LiftRows2 full = Scene.withLifts(20, 10, 50);
        for (int i = 0; i < 24; i++) {
            full.call(10, 12, 1, 2);
        }
        Due.is("24 wait", -1, full.least(0));
        full.step(1);
        Due.is("24 aboard", -1, full.least(0));
        full.step(6);
        Due.is("24 served", 0, full.least(0));
    }

    private static void leastFetchesBefore() {
        Due.sentence("14: those that wait are fetched before");
        int[][] atFromToLeast = {{5, 5, 6, 1}, {5, 6, 5, 2}, {5, 8, 2, 9}, {5, 2, 8, 9}, {5, 3, 1, 4}, {5, 7, 9, 4},
            {0, 19, 0, 38}, {19, 0, 19, 38}, {0, 0, 19, 19}, {19, 19, 0, 19}};
        for (int[] due : atFromToLeast) {
            LiftRows2 x = Scene.withLifts(20, due[0], 9);
            x.call(due[1], due[2], 1, 9);
            Due.is("from " + due[1] + " to " + due[2] + " at " + due[0], due[3], x.least(0));
        }
        LiftRows2 turn = Scene.withLifts(20, 5, 9);
        turn.call(6, 4, 1, 9);
        turn.call(0, 1, 1, 9);
        Due.is("up by one first: 1 + 6 + 1", 8, turn.least(0));
        LiftRows2 zigzag = Scene.withLifts(20, 10, 9);
        zigzag.call(12, 8, 1, 9);
        zigzag.call(8, 13, 1, 9);
        zigzag.call(13, 7, 1, 9);
        Due.is("down to 8, up to 13, down to 7", 2 + 5 + 6, zigzag.least(0));
    }

    private static void leastDoesNotAsk() {
        Due.sentence("14: capacity is not asked, nor doors, nor whether it is stuck");
        LiftRows2 x = Scene.withLifts(20, 10, 9);
        for (int i = 0; i < 4; i++) {
            x.call(10 + i, 14, 1, 9);
        }
        Due.is("all four at once", 4, x.least(0));
        x.step(1);
        Due.is("with the door open", 4, x.least(0));
        x.door(0, true);
        Due.is("with the door kept open", 4, x.least(0));
        x.reserved(0, true);
        Due.is("reserved", 4, x.least(0));
        LiftRows2 stuck = Scene.withLifts(20, 10, 9);
        stuck.call(10, 14, 1, 9);
        stuck.step(1);
        stuck.stuck(0, true);
        Due.is("stuck, with one aboard", 4, stuck.least(0));
        LiftRows2 down = Scene.withLifts(20, 10, 9);
        down.call(0, 1, 1, 9);
        down.step(1);
        down.call(11, 10, 1, 9);
        Due.is("nor its direction: 2 + 11 + 1", 14, down.least(0));
    }

    private static void joins() {
        Due.sentence("15: Whether two waiting calls are from one level to one level");
        LiftRows2 x = Scene.withLifts(20, 10, 9);
        int[][] ways = {{0, 19}, {0, 19}, {19, 0}, {0, 18}, {1, 19}, {0, 19}};
        for (int i = 0; i < ways.length; i++) {
            x.call(ways[i][0], ways[i][1], i % 3 + 1, i == 5 ? 50 : i + 1);
        }
        for (int call = 0; call < ways.length; call++) {
            for (int other = 0; other < ways.length; other++) {
                boolean same = ways[call][0] == ways[other][0] && ways[call][1] == ways[other][1];
                Due.is(call + " and " + other, same ? 1 : 0, x.joins(call, other) ? 1 : 0);
            }
        }
    }

    private static void known() {
        Due.sentence("16: 0 its state (0 WAITING, 1 ABOARD, 2 SERVED), 1 its lift (-1 if it is given to none)");
        LiftRows2 x = Scene.withLifts(20, 19, 1, 0, 50);
        x.call(0, 1, 3, 50);
        x.call(19, 0, 1, 1);
        x.lift(0, 9);
        x.stuck(1, true);
        int[][] waiting = {{0, -1, 0, 1, 3, 50}, {0, 0, 19, 0, 1, 1}};
        knownAre("waiting", x, waiting);
        x.stuck(1, false);
        x.freed();
        x.step(1);
        knownAre("aboard", x, new int[][] {{1, 1, 0, 1, 3, 50}, {1, 0, 19, 0, 1, 1}});
        x.step(5);
        knownAre("one served", x, new int[][] {{2, 1, 0, 1, 3, 50}, {1, 0, 19, 0, 1, 1}});
        x.stuck(0, true);
        knownAre("stuck", x, new int[][] {{2, 1, 0, 1, 3, 50}, {1, 0, 19, 0, 1, 1}});
    }

    private static void knownAre(String when, LiftRows2 x, int[][] due) {
        for (int call = 0; call < due.length; call++) {
            for (int what = 0; what <= 5; what++) {
                Due.is(when + ", call " + call + ", " + what, due[call][what], x.known(call, what));
            }
        }
    }

    private static void countOfEach() {
        Due.sentence("17: 5 calls that wait, 6 those given to none");
        LiftRows2 x = Scene.withLifts(20, 0, 9);
        Due.is("none waits", 0, x.count(5));
        Due.is("none to none", 0, x.count(6));
        for (int i = 0; i < 24; i++) {
            x.call(0, 1, 1, i < 4 ? 9 : 10);
        }
        Due.is("all wait", 24, x.count(5));
        Due.is("20 for none", 20, x.count(6));
        x.step(1);
        Due.is("one aboard", 23, x.count(5));
        x.step(5);
        Due.is("one served", 23, x.count(5));
        x.stuck(0, true);
        Due.is("all for none", 23, x.count(6));
        Due.is("as many wait", 23, x.count(5));
        x.lift(0, 50);
        x.freed();
        Due.is("none for none", 0, x.count(6));
        Due.is("as many wait", 23, x.count(5));
    }

    private static void countOfLevels() {
        Due.sentence("17: 7 a set of levels with waiting calls as bits");
        LiftRows2 x = new LiftRows2(20);
        Due.is("none", 0, x.count(7));
        int due = 0;
        for (int level = 0; level < 20; level++) {
            x.call(level, level == 0 ? 19 : 0, 1, 1);
            due |= 1 << level;
            Due.is("up to " + level, due, x.count(7));
        }
        x.call(19, 18, 1, 1);
        Due.is("one level once more", (1 << 20) - 1, x.count(7));
        LiftRows2 leaves = Scene.withLifts(20, 19, 9);
        leaves.call(19, 0, 1, 5);
        leaves.call(19, 0, 1, 5);
        leaves.call(0, 1, 1, 5);
        leaves.step(1);
        Due.is("one of two is aboard", 1 << 19 | 1, leaves.count(7));
        leaves.step(200);
        Due.is("none any more", 0, leaves.count(7));
    }

    private static void countOfGone() {
        Due.sentence("17: 8 levels gone by all lifts together");
        LiftRows2 x = Scene.withLifts(20, 0, 9, 19, 9);
        Due.is("none", 0, x.count(8));
        x.call(2, 0, 1, 1);
        x.call(18, 19, 1, 1);
        x.step(1);
        Due.is("one up, one down", 2, x.count(8));
        x.step(1);
        Due.is("one boards", 3, x.count(8));
        x.step(50);
        Due.is("there and back", 6, x.count(8));
    }
}
