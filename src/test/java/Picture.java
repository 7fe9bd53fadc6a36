/** All that can be asked of an object, as one text: two objects with one picture are in one state. */
final class Picture {
    private Picture() {
    }

    /** With 4 lifts and 24 calls these are some 250 calls: one picture of an object keeps it under its 512. */
    static String of(LiftRows2 x) {
        StringBuilder text = new StringBuilder("counts");
        for (int what = 0; what <= 8; what++) {
            text.append(' ').append(x.count(what));
        }
        for (int lift = 0; lift < x.count(1); lift++) {
            text.append("; lift ").append(x.level(lift)).append(' ').append(x.least(lift));
            for (int what = 0; what <= 7; what++) {
                text.append(' ').append(x.told(lift, what));
            }
        }
        for (int call = 0; call < x.count(2); call++) {
            text.append("; call ").append(x.served(call)).append(' ').append(x.waits(call));
            for (int what = 0; what <= 5; what++) {
                text.append(' ').append(x.known(call, what));
            }
        }
        for (int i = 0; i < x.count(3); i++) {
            text.append("; event");
            for (int what = 0; what <= 3; what++) {
                text.append(' ').append(x.event(i, what));
            }
        }
        return text.toString();
    }

    /** What comes of it: the events of some seconds, and where the lifts are then. */
    static String later(LiftRows2 x) {
        StringBuilder text = new StringBuilder("events ").append(x.step(45));
        for (int what = 0; what <= 8; what++) {
            text.append(' ').append(x.count(what));
        }
        for (int lift = 0; lift < x.count(1); lift++) {
            text.append("; lift ").append(x.level(lift)).append(' ').append(x.told(lift, 0));
        }
        return text.toString();
    }
}
