/** Counts and prints the answers that are not the ones that are due. */
final class Check {
    private static final long LONGEST_RUN = 300_000L;

    private static int asked = 0;
    private static int wrong = 0;
    private static String about = "";

    /** A call that does not end must not keep the tests from ending. */
    static {
        Thread watch = new Thread(Check::endTheEndless);
        watch.setDaemon(true);
        watch.start();
    }

    interface Call {
        void run();
    }

    private Check() {
    }

    /** Stands before all that is told from now on. */
    static void about(String text) {
        about = text;
    }

    static int asked() {
        return asked;
    }

    static void same(String what, long got, long due) {
        asked++;
        if (got != due) {
            tell(what + " answered " + got + ", due is " + due);
        }
    }

    static void same(String what, boolean got, boolean due) {
        same(what, got ? 1L : 0L, due ? 1L : 0L);
    }

    static void sameFloat(String what, float got, float due) {
        same(what + " (as bits of a float)", Float.floatToIntBits(got), Float.floatToIntBits(due));
    }

    static void sameText(String what, String got, String due) {
        asked++;
        if (!got.equals(due)) {
            tell(what + " answered " + got + ", due is " + due);
        }
    }

    static void index(String what, Call call) {
        thrown(what, call, IndexOutOfBoundsException.class);
    }

    static void argument(String what, Call call) {
        thrown(what, call, IllegalArgumentException.class);
    }

    static void standing(String what, Call call) {
        thrown(what, call, IllegalStateException.class);
    }

    /** The exception is to be the one of the document itself, none of a class below it. */
    static void thrown(String what, Call call, Class<?> due) {
        asked++;
        Class<?> got = null;
        try {
            call.run();
        } catch (RuntimeException e) {
            got = e.getClass();
        }
        if (got != due) {
            tell(what + " threw " + got + ", due is " + due);
        }
    }

    static void wrong(String what) {
        asked++;
        tell(what);
    }

    private static void tell(String text) {
        wrong++;
        if (wrong <= 50) {
            System.out.println(about + text);
        }
    }

    private static void endTheEndless() {
        try {
            Thread.sleep(LONGEST_RUN);
        } catch (InterruptedException e) {
            return;
        }
        System.out.println(about + "does not end");
        Runtime.getRuntime().halt(1);
    }

    static void end(String name) {
        System.out.println(name + ": " + asked + " asked, " + wrong + " wrong");
        if (wrong != 0) {
            System.exit(1);
        }
    }
}
