/** Objects that several tests begin with. */
final class Scene {
    private Scene() {
    }

    /** Lifts as pairs of a level and a capacity. */
    static LiftRows2 withLifts(int levels, int... levelsAndCapacities) {
        LiftRows2 x = new LiftRows2(levels);
        for (int i = 0; i < levelsAndCapacities.length; i += 2) {
            x.lift(levelsAndCapacities[i], levelsAndCapacities[i + 1]);
        }
        return x;
    }

    /**
     * Ten levels, two lifts: call 0 is served and call 1 aboard lift 0, whose door is open (3 seconds yet) at
     * level 2, call 2 waits for lift 1, call 3 for none. Three events, time 7.
     */
    static LiftRows2 ofEachState() {
        LiftRows2 x = withLifts(10, 0, 10, 9, 20);
        x.call(0, 2, 1, 10);
        x.call(2, 5, 2, 10);
        x.step(7);
        x.call(8, 1, 3, 20);
        x.call(4, 6, 1, 50);
        return x;
    }

    /** Four lifts, the first of them with one call. */
    static LiftRows2 withAllLifts() {
        LiftRows2 x = withLifts(10, 0, 10, 9, 20, 5, 50, 5, 1);
        x.call(0, 3, 1, 4);
        return x;
    }

    /** One lift and 24 calls, all of them waiting for it. */
    static LiftRows2 withAllCalls() {
        LiftRows2 x = withLifts(10, 3, 50);
        for (int i = 0; i < 24; i++) {
            x.call(i % 10, (i + 3) % 10, i % 3 + 1, i + 1);
        }
        return x;
    }
}
