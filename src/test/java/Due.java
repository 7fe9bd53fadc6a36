/** What the tests share: asks for an answer or an exception, and ends with exit code 1 if one was not as due. */
final class Due {
    interface Answer {
        long get();
    }

    interface Act {
        void run();
    }

    private static int wrong = 0;
    private static int asked = 0;
    private static int askedBefore = -1;
    private static String sentence = "";

    private Due() {
    }

    /**
     * What is asked from here on tests this sentence of the document, or what follows from it. The sentence
     * before must have been tested: none stands here for show.
     */
    static void sentence(String quoted) {
        if (asked == askedBefore) {
            fault("nothing was asked");
        }
        askedBefore = asked;
        sentence = "\"" + quoted + "\": ";
    }

    static void is(String what, long want, long got) {
        asked++;
        if (got != want) {
            fault(what + " answered " + got + ", due is " + want);
        }
    }

    static void holds(String what, boolean got) {
        is(what, 1, got ? 1 : 0);
    }

    static void refused(String what, Class<? extends RuntimeException> want, Act act) {
        asked++;
        String got = thrownBy(act);
        if (!got.equals(want.getName())) {
            fault(what + " threw " + (got.isEmpty() ? "nothing" : got) + ", due is " + want.getName());
        }
    }

    /** The very class that was thrown, not one above it: the document names each exactly. */
    static String thrownBy(Act act) {
        try {
            act.run();
            return "";
        } catch (RuntimeException e) {
            return e.getClass().getName();
        }
    }

    /** The answer as a text, or the name of the exception. */
    static String told(Answer answer) {
        long[] got = new long[1];
        String thrown = thrownBy(() -> got[0] = answer.get());
        return thrown.isEmpty() ? Long.toString(got[0]) : "throws." + thrown;
    }

    static void same(String what, String want, String got) {
        asked++;
        if (!got.equals(want)) {
            fault(what + " answered " + got + ", due is " + want);
        }
    }

    private static void fault(String text) {
        wrong++;
        if (wrong <= 40) {
            System.out.println(sentence + text);
        }
    }

    static void end() {
        sentence("");
        System.out.println(asked + " asked, " + wrong + " not as due");
        if (asked == 0 || wrong != 0) {
            System.exit(1);
        }
    }
}
