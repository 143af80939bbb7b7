import java.util.TreeMap;

/** Promises 16 to 24: the SURFACE. */
public final class SurfaceTest {
    private static final int[] MOST_CODES = {0, 1, 4, 11, 43, 161};

    private SurfaceTest() {
    }

    private static void told(String name, Billiardry surface, int square, int... due) {
        for (int what = 0; what < due.length; what++) {
            Check.same(name + ": square(" + square + ", " + what + ")", surface.square(square, what), due[what]);
        }
    }

    private static void counted(String name, Billiardry surface, int... due) {
        for (int what = 0; what < due.length; what++) {
            Check.same(name + ": count(" + what + ")", surface.count(what), due[what]);
        }
    }

    private static void promise16Surface() {
        Billiardry surface = new Billiardry();
        Check.same("surface 5 behind 1", surface.surface(5), 1);
        surface.glue(0, 1, false);
        surface.glue(3, 4, true);
        Check.same("surface 2 behind 5", surface.surface(2), 5);
        Check.same("surface 5 behind 2", surface.surface(5), 2);
        for (int square = 0; square < 5; square++) {
            told("a new SURFACE", surface, square, square, square, square, square, 1, 1, 1);
        }
        Check.same("surface 1 behind 5", surface.surface(1), 5);
        Check.argument("surface(0)", () -> surface.surface(0));
        Check.argument("surface(6)", () -> surface.surface(6));
        Check.argument("surface(-1)", () -> surface.surface(-1));
        Check.argument("surface(least)", () -> surface.surface(Integer.MIN_VALUE));
        Check.argument("surface(most)", () -> surface.surface(Integer.MAX_VALUE));
        Check.same("the wrong ones began nothing", surface.surface(3), 1);
    }

    private static void promise17Glue() {
        Billiardry surface = new Billiardry();
        surface.surface(3);
        Check.same("glue(0, 1, false)", surface.glue(0, 1, false), 1);
        Check.same("glue(1, 2, false)", surface.glue(1, 2, false), 2);
        Check.same("glue(2, 0, false)", surface.glue(2, 0, false), 1);
        Check.same("glue(0, 2, true)", surface.glue(0, 2, true), 2);
        Check.same("glue(1, 1, true)", surface.glue(1, 1, true), 1);
        Check.same("glue(1, 1, false)", surface.glue(1, 1, false), 2);
        told("glued", surface, 0, 0, 2, 0, 2);
        told("glued", surface, 1, 2, 1, 2, 1);
        told("glued", surface, 2, 1, 0, 1, 0);
        int[] wrong = {-1, 3, Integer.MIN_VALUE, Integer.MAX_VALUE};
        for (int square : wrong) {
            Check.index("glue(" + square + ", 0)", () -> surface.glue(square, 0, true));
            Check.index("glue(0, " + square + ")", () -> surface.glue(0, square, false));
        }
        told("still glued", surface, 0, 0, 2, 0, 2);
        Billiardry one = new Billiardry();
        Check.same("one SQUARE with itself", one.glue(0, 0, true), 0);
        Check.index("one SQUARE with another", () -> one.glue(0, 1, true));
    }

    /** RIGHT 0 to 1 to 2 to 0, UP 0 to 3 to 0: by hand. */
    private static void promises18And19() {
        Billiardry surface = Make.glued(4, 0, 1, 1, 2, -1, 0, 3);
        told("before", surface, 0, 1, 3, 2, 3);
        told("before", surface, 1, 2, 1, 0, 1);
        int sheared = surface.shear();
        Check.same("shear answers the CODE", sheared, surface.code());
        told("sheared", surface, 0, 1, 1, 2, 3);
        told("sheared", surface, 1, 2, 2, 0, 0);
        told("sheared", surface, 2, 0, 3, 1, 1);
        told("sheared", surface, 3, 3, 0, 3, 2);
        int turned = surface.turn();
        Check.same("turn answers the CODE", turned, surface.code());
        told("turned", surface, 0, 1, 2, 3, 1);
        told("turned", surface, 1, 2, 0, 0, 2);
        told("turned", surface, 2, 3, 1, 1, 0);
        told("turned", surface, 3, 0, 3, 2, 3);
        Billiardry bend = Make.glued(3, 0, 1, -1, 0, 2);
        Check.same("shear", bend.shear(), 930);
        Check.same("turn", bend.turn(), 3426);
        Check.same("one SQUARE: shear", new Billiardry().shear(), 0);
        Check.same("one SQUARE: turn", new Billiardry().turn(), 0);
        Billiardry four = Make.glued(5, 0, 1, 1, 2, 2, 3, -1, 0, 4);
        int before = four.code();
        for (int k = 0; k < 3; k++) {
            four.turn();
        }
        Check.same("four turns", four.turn(), before);
        told("four turns", four, 0, 1, 4, 3, 4);
    }

    private static void promises20And21() {
        Billiardry bend = Make.glued(3, 0, 1, -1, 0, 2);
        told("the bend", bend, 0, 1, 2, 1, 2, 3, 3, 2);
        told("the bend", bend, 1, 0, 1, 0, 1, 3, 3, 2);
        told("the bend", bend, 2, 2, 0, 2, 0, 3, 3, 1);
        counted("the bend", bend, 3, 1, 1, 2, 2);
        Billiardry apart = Make.glued(5, 1, 2, 2, 4);
        told("a ROW and two more PIECES", apart, 0, 0, 0, 0, 0, 1, 1, 1);
        told("a ROW and two more PIECES", apart, 1, 2, 1, 4, 1, 1, 3, 3);
        told("a ROW and two more PIECES", apart, 4, 1, 4, 2, 4, 1, 3, 3);
        counted("a ROW and two more PIECES", apart, 5, 5, 3, 3, 3);
        Billiardry tower = Make.glued(4, -1, 0, 1, 1, 2, 2, 3);
        counted("a tower of flat ROWS", tower, 4, 4, 1, 4, 1);
        Billiardry flat = Make.glued(4, 0, 1, 2, 3, -1, 0, 2, 1, 3);
        counted("two flat ROWS", flat, 4, 4, 1, 2, 1);
        counted("five new ones", Make.glued(5), 5, 5, 5, 5, 5);
        counted("one", new Billiardry(), 1, 1, 1, 1, 1);
        int[] wrong = {-1, 7, Integer.MIN_VALUE, Integer.MAX_VALUE};
        for (int what : wrong) {
            Check.argument("square(0, " + what + ")", () -> bend.square(0, what));
            Check.index("square(3, " + what + ")", () -> bend.square(3, what));
            Check.argument("count(" + what + ")", () -> bend.count(what));
        }
        Check.argument("count(5)", () -> bend.count(5));
        Check.index("square(-1, 0)", () -> bend.square(-1, 0));
        Check.index("square(3, 0)", () -> bend.square(3, 0));
        Check.index("square(least, 0)", () -> bend.square(Integer.MIN_VALUE, 0));
        Check.index("square(most, 0)", () -> bend.square(Integer.MAX_VALUE, 0));
    }

    private static void promise22Genus() {
        Check.same("one SQUARE", new Billiardry().genus(), 1);
        Check.same("the bend", Make.glued(3, 0, 1, -1, 0, 2).genus(), 2);
        Check.same("five in a ROW", Make.glued(5, 0, 1, 1, 2, 2, 3, 3, 4).genus(), 1);
        Billiardry three = Make.glued(5, 0, 1, 1, 2, 2, 3, 3, 4, -1, 3, 0, 1, 0);
        told("one CONE of five", three, 4, 0, 4, 3, 4, 5, 5, 5);
        counted("one CONE of five", three, 5, 1, 1, 1, 1);
        Check.same("one CONE of five", three.genus(), 3);
        Billiardry apart = Make.glued(2);
        Check.standing("two PIECES", apart::genus);
        apart.glue(0, 1, true);
        Check.same("glued to one", apart.genus(), 1);
        apart.surface(5);
        Check.standing("five PIECES", apart::genus);
    }

    /** What is known of tori and of the SURFACES with one CONE of 3 SQUARES, from the literature. */
    private static void promises23And24() {
        Check.same("one SQUARE: code", new Billiardry().code(), 0);
        Check.same("one SQUARE: kin", new Billiardry().kin(), 1);
        Check.same("two in a ROW: code", Make.glued(2, 0, 1).code(), 126);
        Check.same("two in a ROW: kin", Make.glued(2, 0, 1).kin(), 3);
        Check.same("three in a ROW: kin", Make.glued(3, 0, 1, 1, 2).kin(), 4);
        Check.same("four in a ROW: kin", Make.glued(4, 0, 1, 1, 2, 2, 3).kin(), 6);
        Check.same("five in a ROW: kin", Make.glued(5, 0, 1, 1, 2, 2, 3, 3, 4).kin(), 6);
        Check.same("the bend: code", Make.glued(3, 0, 1, -1, 0, 2).code(), 882);
        Check.same("the bend, numbered anew: code", Make.glued(3, 2, 1, -1, 2, 0).code(), 882);
        Check.same("the bend: kin", Make.glued(3, 0, 1, -1, 0, 2).kin(), 3);
        Check.same("the bend of four: kin", Make.glued(4, 0, 1, 1, 2, -1, 0, 3).kin(), 9);
        Check.same("the bend of five: kin", Make.glued(5, 0, 1, 1, 2, 2, 3, -1, 0, 4).kin(), 18);
        Check.same("the other bend of five: kin", Make.glued(5, 0, 1, 1, 2, -1, 0, 3, 3, 4).kin(), 9);
        Check.same("five apart: kin", Make.glued(5).kin(), 1);
        Billiardry again = Make.glued(3, 0, 1, -1, 0, 2);
        Check.same("the bend: kin, first", again.kin(), 3);
        Check.same("the bend: kin, again", again.kin(), 3);
        again.surface(2);
        Check.same("two apart behind the bend: kin", again.kin(), 1);
        again.glue(0, 1, true);
        Check.same("two in a column: kin", again.kin(), 3);
        Check.same("five apart: code", Make.glued(5).code(), fiveApart());
    }

    /** Each SQUARE is its own RIGHT and UP, in whatever order they are numbered. */
    private static int fiveApart() {
        int code = 0;
        for (int square = 0; square < 5; square++) {
            code = code * 25 + square * 6;
        }
        return code;
    }

    private static void glueLike(Billiardry asked, Oracle oracle, int[] order, int what) {
        for (int square = 0; square < order.length; square++) {
            for (int other = square + 1; other < order.length; other++) {
                if (oracle.square(other, what) == order[square]) {
                    asked.glue(square, other, what == 1);
                    oracle.glue(square, other, what == 1);
                }
            }
        }
    }

    private static void sameAsOracle(Billiardry asked, Oracle oracle, int many) {
        for (int square = 0; square < many; square++) {
            for (int what = 0; what <= 6; what++) {
                Check.same("all: square", asked.square(square, what), oracle.square(square, what));
            }
        }
        for (int what = 0; what <= 4; what++) {
            Check.same("all: count " + what, asked.count(what), oracle.count(what));
        }
        if (oracle.count(2) == 1) {
            Check.same("all: genus", asked.genus(), oracle.genus());
        } else {
            Check.standing("all: genus", asked::genus);
        }
    }

    /** Every SURFACE there is. */
    private static void allSurfaces(int many) {
        TreeMap<Integer, Integer> kin = new TreeMap<>();
        for (int[] right : Make.orders(many)) {
            for (int[] up : Make.orders(many)) {
                Billiardry asked = new Billiardry();
                Oracle oracle = new Oracle();
                asked.surface(many);
                oracle.surface(many);
                glueLike(asked, oracle, right, 0);
                glueLike(asked, oracle, up, 1);
                int code = oracle.code();
                Check.same("all: code", asked.code(), code);
                sameAsOracle(asked, oracle, many);
                if (!kin.containsKey(code)) {
                    kin.put(code, oracle.kin());
                    Check.same("all: kin", asked.kin(), oracle.kin());
                }
                Check.same("all: shear", asked.shear(), oracle.shear());
                Check.same("all: turn", asked.turn(), oracle.turn());
            }
        }
        Check.same("all CODES of " + many + " SQUARES", kin.size(), MOST_CODES[many]);
    }

    public static void main(String[] args) {
        promise16Surface();
        promise17Glue();
        promises18And19();
        promises20And21();
        promise22Genus();
        promises23And24();
        for (int many = 1; many <= 5; many++) {
            allSurfaces(many);
        }
        Check.end("SurfaceTest");
    }
}
