/** Counts the answers that are not as due, for the tests' main methods. */
final class Due {
    interface Call {
        long answer();
    }

    interface Deed {
        void act();
    }

    private static int wrong = 0;
    private static int asked = 0;

    private Due() {
    }

    static void is(String what, long got, long want) {
        asked++;
        if (got != want) {
            wrong++;
            System.out.println(what + " answered " + got + ", due is " + want);
        }
    }

    static void is(String what, String got, String want) {
        asked++;
        if (!got.equals(want)) {
            wrong++;
            System.out.println(what + " answered " + got + ", due is " + want);
        }
    }

    static void index(String what, Deed deed) {
        is(what, kindOf(deed), "IndexOutOfBoundsException");
    }

    static void argument(String what, Deed deed) {
        is(what, kindOf(deed), "IllegalArgumentException");
    }

    static void state(String what, Deed deed) {
        is(what, kindOf(deed), "IllegalStateException");
    }

    static void full(String what, Deed deed) {
        is(what, kindOf(deed), "UnsupportedOperationException");
    }

    /** The exact class that a deed throws, since a class below it would come from the machine. */
    static String kindOf(Deed deed) {
        try {
            deed.act();
            return "nothing";
        } catch (RuntimeException e) {
            return e.getClass().getSimpleName();
        }
    }

    static String answerOf(Call call) {
        try {
            return Long.toString(call.answer());
        } catch (RuntimeException e) {
            return e.getClass().getSimpleName();
        }
    }

    static void end() {
        System.out.println(asked + " answers looked at, " + wrong + " not as due");
        if (wrong > 0) {
            System.exit(1);
        }
    }
}
