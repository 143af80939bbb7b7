/** Counts and prints the answers that are not the ones that are due. */
final class Check {
    private static int asked = 0;
    private static int wrong = 0;

    interface Call {
        void run();
    }

    private Check() {
    }

    static void same(String what, long got, long due) {
        asked++;
        if (got != due) {
            tell(what + " answered " + got + ", due is " + due);
        }
    }

    static void same(String what, boolean got, boolean due) {
        same(what, got ? 1L : 0L, due ? 1L : 0L);
    }

    static void sameFloat(String what, float got, float due) {
        same(what + " (as bits of a float)", Float.floatToIntBits(got), Float.floatToIntBits(due));
    }

    static void sameText(String what, String got, String due) {
        asked++;
        if (!got.equals(due)) {
            tell(what + " answered " + got + ", due is " + due);
        }
    }

    static void index(String what, Call call) {
        thrown(what, call, IndexOutOfBoundsException.class);
    }

    static void argument(String what, Call call) {
        thrown(what, call, IllegalArgumentException.class);
    }

    static void standing(String what, Call call) {
        thrown(what, call, IllegalStateException.class);
    }

    private static void thrown(String what, Call call, Class<?> due) {
        asked++;
        Class<?> got = null;
        try {
            call.run();
        } catch (RuntimeException e) {
            got = e.getClass();
        }
        if (got != due) {
            tell(what + " threw " + got + ", due is " + due);
        }
    }

    private static void tell(String text) {
        wrong++;
        if (wrong <= 50) {
            System.out.println(text);
        }
    }

    static void end(String name) {
        System.out.println(name + ": " + asked + " asked, " + wrong + " wrong");
        if (wrong != 0) {
            System.exit(1);
        }
    }
}
