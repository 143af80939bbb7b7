/** What stands behind a call: all as it was, if the call is refused, or if it is a question. */
final class Behind {
    interface Maker {
        Billiardry make();
    }

    interface Use {
        void of(Billiardry asked);
    }

    private Behind() {
    }

    private static Maker[] orAny(Maker[] makers) {
        return makers.length > 0 ? makers : new Maker[] {Make::bare, Make::some, Make::full};
    }

    /** Without makers the call is to be refused on each of bare(), some() and full(). */
    static void index(String call, Use use, Maker... makers) {
        refused(call, use, IndexOutOfBoundsException.class, orAny(makers));
    }

    static void argument(String call, Use use, Maker... makers) {
        refused(call, use, IllegalArgumentException.class, orAny(makers));
    }

    static void standing(String call, Use use, Maker... makers) {
        refused(call, use, IllegalStateException.class, orAny(makers));
    }

    private static void refused(String call, Use use, Class<?> due, Maker[] makers) {
        for (int k = 0; k < makers.length; k++) {
            Billiardry asked = makers[k].make();
            Check.thrown(call + " on object " + k, () -> use.of(asked), due);
            Check.sameText(call + " on object " + k + ": behind it", Probe.of(asked), Probe.of(makers[k].make()));
        }
    }

    static void question(String call, Use use, Maker... makers) {
        for (Maker maker : orAny(makers)) {
            Billiardry asked = maker.make();
            use.of(asked);
            Check.sameText(call + ": behind it", Probe.of(asked), Probe.of(maker.make()));
        }
    }
}
