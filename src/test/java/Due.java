/** Counts and prints the answers that are not the ones due. */
final class Due {
    private static int looked = 0;
    private static int wrong = 0;

    private Due() {
    }

    interface Call {
        long go();
    }

    static void is(String call, long got, long want) {
        looked++;
        if (got != want) {
            wrong++;
            System.out.println(call + " answered " + got + ", due is " + want);
        }
    }

    static void isTrue(String what, boolean holds) {
        is(what + " (1 it holds, 0 not)", holds ? 1 : 0, 1);
    }

    /** The call must throw just this class, and no subclass of it. */
    static void fails(String call, Class<? extends RuntimeException> want, Call made) {
        looked++;
        String got;
        try {
            got = "answered " + made.go();
        } catch (RuntimeException e) {
            if (e.getClass() == want) {
                return;
            }
            got = "threw " + e.getClass().getName();
        }
        wrong++;
        System.out.println(call + " " + got + ", due is " + want.getName());
    }

    static void index(String call, Call made) {
        fails(call, IndexOutOfBoundsException.class, made);
    }

    static void argument(String call, Call made) {
        fails(call, IllegalArgumentException.class, made);
    }

    static void state(String call, Call made) {
        fails(call, IllegalStateException.class, made);
    }

    static void end() {
        System.out.println(looked + " answers looked at, " + wrong + " not as due");
        if (wrong != 0) {
            System.exit(1);
        }
    }
}
