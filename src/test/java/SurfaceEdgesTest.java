import java.util.TreeSet;

/**
 * Promises 16 to 24: each sentence that names a boundary case of the SURFACE. A SURFACE is told here as
 * a CODE is: RIGHT and UP of the SQUARE 0, then of the SQUARE 1, and so on.
 */
public final class SurfaceEdgesTest {
    private static final int LEAST = Integer.MIN_VALUE;
    private static final int MOST = Integer.MAX_VALUE;

    private static final String BEND = "120120";
    private static final String FIVE_IN_A_ROW = "1021324304";
    private static final String FIVE_APART = "0011223344";
    private static final String ONE_CONE_OF_FIVE = "0213304124";
    private static final String MOST_KIN = "0112302443";
    private static final String GREATEST_CODE = "1234412003";

    private SurfaceEdgesTest() {
    }

    static void tell(Edges edges) {
        tellSurface(edges);
        tellGlue(edges);
        tellShear(edges);
        tellTurn(edges);
        tellSquare(edges);
        tellGroups(edges);
        tellCount(edges);
        tellGenus(edges);
        tellCode(edges);
        tellKin(edges);
    }

    /** RIGHT and UP of all SQUARES, as digits. */
    private static String digits(Billiardry surface) {
        StringBuilder text = new StringBuilder();
        for (int square = 0; square < surface.count(0); square++) {
            text.append(surface.square(square, 0)).append(surface.square(square, 1));
        }
        return text.toString();
    }

    /** No SQUARE of so many; some would be one, if they were cut off or wrapped around. */
    private static int[] noneOf(int squares) {
        return new int[] {-1, squares, squares + 1, -squares, 256, 65536, -65536, LEAST, LEAST + 1, MOST};
    }

    /** The answers for the SQUARES 0, 1 and so on are due as digits. */
    private static void told(String surface, int what, String due) {
        Billiardry asked = Make.surface(surface);
        StringBuilder got = new StringBuilder();
        for (int square = 0; square < surface.length() / 2; square++) {
            got.append(asked.square(square, what));
        }
        Check.sameText(surface + ", what " + what, got.toString(), due);
    }

    private static void counted(String surface, int what, int due) {
        Check.same(surface + ", count " + what, Make.surface(surface).count(what), due);
    }

    // ---- promise 16

    private static void tellSurface(Edges edges) {
        edges.of(16, "Begins a new SURFACE.", SurfaceEdgesTest::nothingStaysOfTheOld);
        edges.of(16, "- `squares`: 1 to 5", SurfaceEdgesTest::oneToFive);
        edges.of(16, "The SURFACE has SQUARES, 1 to 5, numbered from 0; one at first.", SurfaceEdgesTest::numbered);
        edges.of(16, "In a new SURFACE each is its own RIGHT and UP.", SurfaceEdgesTest::itsOwnRightAndUp);
        edges.of(16, "Returns how many SQUARES the one before had.", SurfaceEdgesTest::howManyBefore);
        edges.of(16, "Throws `IllegalArgumentException` if squares is out of range", SurfaceEdgesTest::surfaceRefused);
        edges.of(16, "A call that throws an exception changes nothing.", SurfaceEdgesTest::surfaceRefusedBetween);
    }

    private static void nothingStaysOfTheOld() {
        Billiardry surface = Make.surface(GREATEST_CODE);
        surface.surface(5);
        Check.sameText("as many again", digits(surface), FIVE_APART);
        Check.same("as many again: left", surface.square(0, 2), 0);
        Check.same("as many again: down", surface.square(4, 3), 4);
        surface.glue(0, 4, true);
        surface.surface(2);
        surface.surface(5);
        Check.sameText("fewer, then as many", digits(surface), FIVE_APART);
    }

    private static void oneToFive() {
        for (int squares = 1; squares <= 5; squares++) {
            Billiardry surface = new Billiardry();
            surface.surface(squares);
            Check.same("SQUARES", surface.count(0), squares);
        }
        Behind.argument("no SQUARES", b -> b.surface(0));
        Behind.argument("6 SQUARES", b -> b.surface(6));
    }

    private static void numbered() {
        for (int squares = 1; squares <= 5; squares++) {
            Billiardry surface = new Billiardry();
            Check.same("one at first", surface.count(0), 1);
            surface.surface(squares);
            int last = squares - 1;
            Check.same("the first", surface.square(0, 0), 0);
            Check.same("the last", surface.square(last, 0), last);
            Check.index("behind the last", () -> surface.square(last + 1, 0));
        }
    }

    private static void itsOwnRightAndUp() {
        String[] due = {"00", "0011", "001122", "00112233", FIVE_APART};
        for (int squares = 1; squares <= 5; squares++) {
            Billiardry surface = Make.surface(BEND);
            surface.surface(squares);
            Check.sameText("a new one of " + squares, digits(surface), due[squares - 1]);
        }
    }

    private static void howManyBefore() {
        Billiardry surface = new Billiardry();
        int[] squares = {5, 5, 1, 1, 3, 2, 4, 1};
        int before = 1;
        for (int many : squares) {
            Check.same("before " + many, surface.surface(many), before);
            before = many;
        }
    }

    private static void surfaceRefused() {
        for (int squares : new int[] {0, 6, -1, -5, 7, 256, 257, 65536, 65537, LEAST, LEAST + 1, MOST}) {
            Behind.argument("surface(" + squares + ")", b -> b.surface(squares));
        }
    }

    private static void surfaceRefusedBetween() {
        Billiardry surface = Make.surface(GREATEST_CODE);
        Check.argument("surface(0)", () -> surface.surface(0));
        Check.argument("surface(6)", () -> surface.surface(6));
        Check.sameText("still glued so", digits(surface), GREATEST_CODE);
        Check.same("before", surface.surface(1), 5);
        Check.argument("surface(6) behind 1", () -> surface.surface(6));
        Check.same("before again", surface.surface(4), 1);
    }

    // ---- promise 17

    private static void tellGlue(Edges edges) {
        edges.of(17, "Glues anew: two SQUARES exchange their RIGHTS, or their UPS.", SurfaceEdgesTest::exchangeTwo);
        edges.of(17, "- `isUp`: whether it is their UPS", SurfaceEdgesTest::rightsOrUps);
        edges.of(17, "Returns the RIGHT, or UP, of the first one then.", SurfaceEdgesTest::ofTheFirstThen);
        edges.of(17, "both can be the same", SurfaceEdgesTest::bothTheSame);
        edges.of(17, "Throws `IndexOutOfBoundsException` if there is no such SQUARE, of either",
            SurfaceEdgesTest::glueRefused);
        edges.of(17, "A call that throws an exception changes nothing.", SurfaceEdgesTest::glueRefusedBetween);
    }

    private static void exchangeTwo() {
        Billiardry surface = Make.surface(FIVE_APART);
        surface.glue(0, 4, false);
        Check.sameText("RIGHTS of the first and the last", digits(surface), "4011223304");
        surface.glue(4, 3, true);
        Check.sameText("UPS of the last two", digits(surface), "4011223403");
        surface.glue(4, 0, false);
        Check.sameText("RIGHTS again", digits(surface), "0011223443");
        surface.glue(3, 0, true);
        Check.sameText("UPS that are exchanged already", digits(surface), "0411223043");
        Check.same("left", surface.square(4, 2), 4);
        Check.same("down", surface.square(4, 3), 0);
        Check.same("down of 0", surface.square(0, 3), 3);
    }

    private static void rightsOrUps() {
        Billiardry rights = Make.surface("0011");
        rights.glue(0, 1, false);
        Check.sameText("RIGHTS", digits(rights), "1001");
        Billiardry ups = Make.surface("0011");
        ups.glue(0, 1, true);
        Check.sameText("UPS", digits(ups), "0110");
    }

    private static void ofTheFirstThen() {
        Billiardry surface = Make.surface(FIVE_APART);
        Check.same("RIGHT of 1, with 3", surface.glue(1, 3, false), 3);
        Check.same("RIGHT of 3, with 4", surface.glue(3, 4, false), 4);
        Check.same("RIGHT of 4, with 1", surface.glue(4, 1, false), 3);
        Check.same("UP of 4, with 0", surface.glue(4, 0, true), 0);
        Check.same("UP of 0, with 4", surface.glue(0, 4, true), 0);
    }

    private static void bothTheSame() {
        for (int square = 0; square < 5; square++) {
            Billiardry surface = Make.surface(GREATEST_CODE);
            int right = GREATEST_CODE.charAt(2 * square) - '0';
            int up = GREATEST_CODE.charAt(2 * square + 1) - '0';
            Check.same("RIGHT", surface.glue(square, square, false), right);
            Check.same("UP", surface.glue(square, square, true), up);
            Check.sameText("nothing has changed", digits(surface), GREATEST_CODE);
        }
        Check.same("one SQUARE alone", new Billiardry().glue(0, 0, false), 0);
    }

    private static void glueRefused() {
        for (int none : noneOf(1)) {
            Behind.index("glue(" + none + ", 0) of 1", b -> b.glue(none, 0, true), Make::bare);
            Behind.index("glue(0, " + none + ") of 1", b -> b.glue(0, none, false), Make::bare);
        }
        for (int none : noneOf(3)) {
            Behind.index("glue(" + none + ", 2) of 3", b -> b.glue(none, 2, false), Make::some);
            Behind.index("glue(2, " + none + ") of 3", b -> b.glue(2, none, true), Make::some);
        }
        for (int none : noneOf(5)) {
            Behind.index("glue(" + none + ", 4) of 5", b -> b.glue(none, 4, true), Make::full);
            Behind.index("glue(4, " + none + ") of 5", b -> b.glue(4, none, false), Make::full);
            Behind.index("glue of " + none + " with itself", b -> b.glue(none, none, true), Make::full);
        }
    }

    /** SQUARES that there were, or that there will be, are none now. */
    private static void glueRefusedBetween() {
        Billiardry surface = Make.surface(GREATEST_CODE);
        surface.surface(3);
        Check.index("glue(0, 3) of 3, that were 5", () -> surface.glue(0, 3, false));
        Check.index("glue(4, 0) of 3, that were 5", () -> surface.glue(4, 0, true));
        Check.sameText("three apart", digits(surface), "001122");
        surface.surface(5);
        Check.sameText("five apart", digits(surface), FIVE_APART);
        Check.same("glue(0, 4) of 5", surface.glue(0, 4, false), 4);
    }

    // ---- promise 18

    private static void tellShear(Edges edges) {
        edges.of(18, "To shear the SURFACE is to make UP of each SQUARE what was UP of its RIGHT; RIGHT stays.",
            SurfaceEdgesTest::whatWasUpOfRight);
        edges.of(18, "Shears the SURFACE; returns its CODE then.", SurfaceEdgesTest::shearTellsTheCodeThen);
        edges.of(18, "RIGHT stays", SurfaceEdgesTest::shearsAround);
    }

    /** Were UPS made new one by one, some would be taken from SQUARES that have a new one already. */
    private static void whatWasUpOfRight() {
        shears(FIVE_IN_A_ROW, "1122334400");
        shears("4001122334", "4400112233");
        shears(BEND, "110220");
        shears(FIVE_APART, FIVE_APART);
        shears("00", "00");
        shears("1001", "1100");
        shears("0110", "0110");
        shears(MOST_KIN, "0112342043");
    }

    private static void shears(String before, String due) {
        Billiardry surface = Make.surface(before);
        surface.shear();
        Check.sameText(before + " sheared", digits(surface), due);
        for (int square = 0; square < surface.count(0); square++) {
            Check.same("DOWN of UP", surface.square(surface.square(square, 1), 3), square);
        }
    }

    private static void shearTellsTheCodeThen() {
        Billiardry row = Make.surface(FIVE_IN_A_ROW);
        Check.same("five in a ROW", row.shear(), Integer.parseInt("1122334400", 5));
        Check.same("its code", row.code(), Integer.parseInt("1122334400", 5));
        Check.same("the bend", Make.surface(BEND).shear(), Integer.parseInt("012210", 5));
        Check.same("one SQUARE", new Billiardry().shear(), 0);
        Check.same("five apart", Make.surface(FIVE_APART).shear(), Integer.parseInt(FIVE_APART, 5));
    }

    /** As many times as a ROW is long, or as both are at once, a shear of it goes around. */
    private static void shearsAround() {
        Billiardry row = Make.surface(FIVE_IN_A_ROW);
        Billiardry rows = Make.surface("1021024334");
        for (int k = 1; k <= 6; k++) {
            row.shear();
            rows.shear();
            Check.same("five in a ROW, behind " + k, digits(row).equals(FIVE_IN_A_ROW), k == 5);
            Check.same("a ROW of 3 and one of 2, behind " + k, digits(rows).equals("1021024334"), k == 6);
            Check.same("RIGHT of the last", row.square(4, 0), 0);
        }
    }

    // ---- promise 19

    private static void tellTurn(Edges edges) {
        edges.of(19, "To turn it is to make RIGHT of each what was its UP, and UP of each what was its LEFT.",
            SurfaceEdgesTest::whatWasUpAndLeft);
        edges.of(19, "Turns the SURFACE; returns its CODE then.", SurfaceEdgesTest::turnTellsTheCodeThen);
    }

    private static void whatWasUpAndLeft() {
        String[] around = {FIVE_IN_A_ROW, "0410213243", "4001122334", "0112233440", FIVE_IN_A_ROW};
        Billiardry row = Make.surface(FIVE_IN_A_ROW);
        for (int k = 1; k < around.length; k++) {
            row.turn();
            Check.sameText("five in a ROW behind " + k, digits(row), around[k]);
            Check.same("LEFT of RIGHT", row.square(row.square(3, 0), 2), 3);
            Check.same("DOWN of UP", row.square(row.square(3, 1), 3), 3);
        }
        Billiardry bend = Make.surface(BEND);
        bend.turn();
        Check.sameText("the bend", digits(bend), "211002");
        Billiardry apart = Make.surface(FIVE_APART);
        apart.turn();
        Check.sameText("five apart", digits(apart), FIVE_APART);
    }

    private static void turnTellsTheCodeThen() {
        Billiardry row = Make.surface(FIVE_IN_A_ROW);
        Check.same("five in a ROW", row.turn(), Integer.parseInt("0112233440", 5));
        Check.same("five in a ROW, again", row.turn(), Integer.parseInt("1021324304", 5));
        Billiardry bend = Make.surface("110220");
        Check.same("the bend, sheared", bend.turn(), Integer.parseInt("102201", 5));
        Check.same("its code", bend.code(), Integer.parseInt("102201", 5));
        Check.same("one SQUARE", new Billiardry().turn(), 0);
        Check.same("five apart", Make.surface(FIVE_APART).turn(), Integer.parseInt(FIVE_APART, 5));
    }

    // ---- promise 20

    private static void tellSquare(Edges edges) {
        edges.of(20, "0 its RIGHT, 1 its UP, 2 its LEFT, 3 its DOWN", SurfaceEdgesTest::fourNeighbours);
        edges.of(20, "4 the ANGLE of its CONE", SurfaceEdgesTest::leastAndMostAngles);
        edges.of(20, "5 how many SQUARES its PIECE has", SurfaceEdgesTest::leastAndMostPieces);
        edges.of(20, "6 how many its ROW has", SurfaceEdgesTest::leastAndMostRows);
        edges.of(20, "- `what`: 0 to 6", SurfaceEdgesTest::whatZeroToSix);
        edges.of(20, "Each SQUARE has another one, or itself, to its RIGHT and UP, and is to the RIGHT of just one,"
            + " which is to its LEFT, and UP of just one, which is DOWN from it.", SurfaceEdgesTest::anotherOrItself);
        edges.of(20, "From the SQUARE k one goes round a corner to DOWN of LEFT of UP of RIGHT of k: first to its"
            + " RIGHT, then UP, then LEFT, then DOWN.", SurfaceEdgesTest::roundACorner);
        edges.of(20, "Those SQUARES to which one comes so again and again, k with them, make a CONE; its ANGLE is how"
            + " many they are.", SurfaceEdgesTest::theFirstWithThem);
        edges.of(20, "Throws `IndexOutOfBoundsException` if there is no such SQUARE", SurfaceEdgesTest::noSuchSquare);
        edges.of(20, "Throws `IllegalArgumentException` if what is out of range", SurfaceEdgesTest::squareRefused);
        edges.of(20, "If several apply, the one that is named first in the throws clause is thrown.",
            SurfaceEdgesTest::noSquareBeforeWhat);
        for (int what = 0; what <= 6; what++) {
            int asked = what;
            edges.of(20, "questions change nothing", () -> Behind.question("square", b -> b.square(0, asked)));
        }
    }

    private static void fourNeighbours() {
        told(GREATEST_CODE, 0, "13420");
        told(GREATEST_CODE, 1, "24103");
        told(GREATEST_CODE, 2, "40312");
        told(GREATEST_CODE, 3, "32041");
        told("00", 0, "0");
        told("00", 1, "0");
        told("00", 2, "0");
        told("00", 3, "0");
    }

    private static void leastAndMostAngles() {
        told("00", 4, "1");
        told(FIVE_APART, 4, "11111");
        told(FIVE_IN_A_ROW, 4, "11111");
        told("02133021", 4, "2222");
        told(BEND, 4, "333");
        told("01203213", 4, "3313");
        told(MOST_KIN, 4, "12222");
        told("0012234134", 4, "11333");
        told(ONE_CONE_OF_FIVE, 4, "55555");
    }

    private static void leastAndMostPieces() {
        told("00", 5, "1");
        told(FIVE_APART, 5, "11111");
        told("0011223443", 5, "11122");
        told("1001324324", 5, "22333");
        told("0012334124", 5, "14444");
        told("1021320344", 5, "44441");
        told(GREATEST_CODE, 5, "55555");
    }

    private static void leastAndMostRows() {
        told("00", 6, "1");
        told(FIVE_APART, 6, "11111");
        told("0112233440", 6, "11111");
        told("1021024334", 6, "33322");
        told(MOST_KIN, 6, "11221");
        told(FIVE_IN_A_ROW, 6, "55555");
    }

    private static void whatZeroToSix() {
        int[] due = {1, 2, 1, 2, 3, 3, 2};
        for (int what = 0; what <= 6; what++) {
            Check.same("what " + what, Make.surface(BEND).square(0, what), due[what]);
        }
        Behind.argument("what -1", b -> b.square(0, -1));
        Behind.argument("what 7", b -> b.square(0, 7));
    }

    private static void anotherOrItself() {
        String[] surfaces = {"00", "1001", BEND, "1021320344", GREATEST_CODE, ONE_CONE_OF_FIVE, MOST_KIN};
        for (String digits : surfaces) {
            Billiardry surface = Make.surface(digits);
            Check.sameText("RIGHT and UP", digits(surface), digits);
            for (int square = 0; square < surface.count(0); square++) {
                Check.same("LEFT of RIGHT", surface.square(surface.square(square, 0), 2), square);
                Check.same("RIGHT of LEFT", surface.square(surface.square(square, 2), 0), square);
                Check.same("DOWN of UP", surface.square(surface.square(square, 1), 3), square);
                Check.same("UP of DOWN", surface.square(surface.square(square, 3), 1), square);
            }
        }
    }

    /** SURFACES on which another corner, or another order, would come to other SQUARES. */
    private static void roundACorner() {
        told("01203213", 4, "3313");
        told("0112304324", 4, "13313");
        told("1203344021", 4, "13313");
        told("0123344210", 4, "21222");
        told("1123044230", 4, "31313");
    }

    /** One comes back at once, or by way of all others. */
    private static void theFirstWithThem() {
        told("00", 4, "1");
        told("1100", 4, "11");
        told("1021320344", 4, "11111");
        told("012012", 4, "333");
        told(ONE_CONE_OF_FIVE, 4, "55555");
    }

    private static void noSuchSquare() {
        for (int what = 0; what <= 6; what++) {
            int asked = what;
            for (int none : noneOf(1)) {
                Check.index("square " + none + " of 1", () -> Make.bare().square(none, asked));
            }
            for (int none : noneOf(3)) {
                Behind.index("square " + none + " of 3", b -> b.square(none, asked), Make::some);
            }
            for (int none : noneOf(5)) {
                Check.index("square " + none + " of 5", () -> Make.full().square(none, asked));
            }
        }
        Billiardry fewer = Make.surface(FIVE_APART);
        fewer.surface(2);
        Check.index("square 2 of 2, that were 5", () -> fewer.square(2, 0));
        Check.same("square 1 of 2, that were 5", fewer.square(1, 0), 1);
    }

    private static void squareRefused() {
        for (int what : new int[] {-1, 7, 8, -7, 256, 65536, LEAST, LEAST + 1, MOST}) {
            Behind.argument("what " + what, b -> b.square(0, what));
            Behind.argument("what " + what + " of the last", b -> b.square(4, what), Make::full);
        }
    }

    private static void noSquareBeforeWhat() {
        Behind.index("square 1 of 1, what 7", b -> b.square(1, 7), Make::bare);
        Behind.index("square -1, what -1", b -> b.square(-1, -1));
        Behind.index("square 5 of 5, what 7", b -> b.square(5, 7), Make::full);
        Behind.index("square most, what least", b -> b.square(MOST, LEAST));
    }

    // ---- promise 21

    private static void tellGroups(Edges edges) {
        edges.of(21, "Those SQUARES to which one comes so again and again, k with them, make a CONE",
            SurfaceEdgesTest::fewestAndMostCones);
        edges.of(21, "A PIECE is all SQUARES to which one comes from one by RIGHT and UP.",
            SurfaceEdgesTest::fewestAndMostPieces);
        edges.of(21, "A ROW is all SQUARES to which one comes by RIGHT alone.", SurfaceEdgesTest::fewestAndMostRows);
        edges.of(21, "If for each SQUARE of a ROW the ANGLE of its CONE is 1", SurfaceEdgesTest::forEachSquareOfARow);
        edges.of(21, "that ROW and the ROW that has UP of one of its SQUARES (of whichever, it is the same) are joined",
            SurfaceEdgesTest::joinedWithTheRowUp);
        edges.of(21, "that may be itself", SurfaceEdgesTest::joinedWithItself);
        edges.of(21, "a CYLINDER is all ROWS that are joined, by others too", SurfaceEdgesTest::joinedByOthers);
    }

    private static void fewestAndMostCones() {
        counted("00", 1, 1);
        counted(FIVE_APART, 1, 5);
        counted(FIVE_IN_A_ROW, 1, 5);
        counted(BEND, 1, 1);
        counted("02133021", 1, 2);
        counted(MOST_KIN, 1, 3);
        counted(ONE_CONE_OF_FIVE, 1, 1);
    }

    private static void fewestAndMostPieces() {
        counted("00", 2, 1);
        counted(FIVE_APART, 2, 5);
        counted("0011223443", 2, 4);
        counted("0011233442", 2, 3);
        counted("1001324324", 2, 2);
        counted("1021320344", 2, 2);
        counted(GREATEST_CODE, 2, 1);
    }

    private static void fewestAndMostRows() {
        counted("00", 3, 1);
        counted(FIVE_APART, 3, 5);
        counted("0112233440", 3, 5);
        counted(MOST_KIN, 3, 4);
        counted("1021024334", 3, 2);
        counted(FIVE_IN_A_ROW, 3, 1);
    }

    /** One SQUARE of the ROW with an ANGLE that is not 1 is enough to keep it apart. */
    private static void forEachSquareOfARow() {
        counted("1203304124", 4, 2);
        counted("1203344021", 4, 2);
        counted("0012314324", 4, 3);
        counted("01203213", 4, 2);
        counted("0120334412", 4, 2);
        counted("1102334420", 4, 2);
        counted(BEND, 4, 2);
        counted("0112304324", 4, 2);
        counted("02133021", 4, 3);
    }

    private static void joinedWithTheRowUp() {
        counted("0110", 4, 1);
        counted("12033021", 4, 1);
        counted(MOST_KIN, 4, 3);
        counted("0112234034", 4, 2);
        counted("0123144032", 4, 2);
        counted("01123023", 4, 2);
        counted("0012234134", 4, 3);
    }

    private static void joinedWithItself() {
        counted("00", 4, 1);
        counted("1001", 4, 1);
        counted(FIVE_APART, 4, 5);
        counted(FIVE_IN_A_ROW, 4, 1);
        counted(GREATEST_CODE, 4, 1);
        counted("1001324324", 4, 2);
    }

    /** The first ROW and the third one are joined by the second. */
    private static void joinedByOthers() {
        counted("0112233440", 4, 1);
        counted("0314203142", 4, 1);
        counted("00122331", 4, 2);
        counted("0011233442", 4, 3);
    }

    private static void tellCount(Edges edges) {
        edges.of(21, "Counts: 0 SQUARES, 1 CONES, 2 PIECES, 3 ROWS, 4 CYLINDERS.", SurfaceEdgesTest::countsAll);
        edges.of(21, "- `what`: 0 to 4", SurfaceEdgesTest::countZeroToFour);
        edges.of(21, "Throws `IllegalArgumentException` if what is out of range", SurfaceEdgesTest::countRefused);
        for (int what = 0; what <= 4; what++) {
            int asked = what;
            edges.of(21, "questions change nothing", () -> Behind.question("count", b -> b.count(asked)));
        }
    }

    private static void countsAll() {
        int[] due = {5, 3, 1, 4, 3};
        Billiardry surface = Make.surface(MOST_KIN);
        for (int what = 0; what <= 4; what++) {
            Check.same("count " + what, surface.count(what), due[what]);
        }
    }

    private static void countZeroToFour() {
        for (int what = 0; what <= 4; what++) {
            Check.same("one SQUARE, count " + what, new Billiardry().count(what), 1);
            Check.same("five apart, count " + what, Make.surface(FIVE_APART).count(what), 5);
        }
        Behind.argument("count(-1)", b -> b.count(-1));
        Behind.argument("count(5)", b -> b.count(5));
    }

    private static void countRefused() {
        for (int what : new int[] {-1, 5, 6, -4, 256, 65536, LEAST, LEAST + 1, MOST}) {
            Behind.argument("count(" + what + ")", b -> b.count(what));
        }
    }

    // ---- promise 22

    private static void tellGenus(Edges edges) {
        edges.of(22, "Returns the genus: 1, and the half of how many more SQUARES there are than CONES.",
            SurfaceEdgesTest::leastAndMostGenus);
        edges.of(22, "Throws `IllegalStateException` if there is more than one PIECE", SurfaceEdgesTest::genusRefused);
        edges.of(22, "questions change nothing",
            () -> Behind.question("genus", Billiardry::genus, Make::bare, Make::some));
    }

    private static void leastAndMostGenus() {
        Check.same("one SQUARE", new Billiardry().genus(), 1);
        Check.same("five SQUARES, five CONES", Make.surface(GREATEST_CODE).genus(), 1);
        Check.same("three SQUARES, one CONE", Make.surface(BEND).genus(), 2);
        Check.same("four SQUARES, two CONES", Make.surface("02133021").genus(), 2);
        Check.same("five SQUARES, three CONES", Make.surface(MOST_KIN).genus(), 2);
        Check.same("five SQUARES, one CONE", Make.surface(ONE_CONE_OF_FIVE).genus(), 3);
    }

    private static void genusRefused() {
        String[] surfaces = {"0011", "001221", "1021320344", "0012234134", "1001324324", FIVE_APART};
        for (String digits : surfaces) {
            Behind.standing(digits, Billiardry::genus, () -> Make.surface(digits));
        }
        Billiardry surface = Make.surface("0011");
        Check.standing("two PIECES", surface::genus);
        surface.glue(0, 1, true);
        Check.same("one PIECE", surface.genus(), 1);
        surface.glue(0, 1, true);
        Check.standing("two PIECES again", surface::genus);
    }

    // ---- promise 23

    private static void tellCode(Edges edges) {
        edges.of(23, "Returns the CODE of the SURFACE.", SurfaceEdgesTest::leastAndGreatestCodes);
        edges.of(23, "The CODE of a SURFACE is the least number that one gets by numbering its SQUARES from 0 in any"
            + " order", SurfaceEdgesTest::numberedInAnyOrder);
        edges.of(23, "its digits of 5, the first one counting most, are RIGHT and UP of the SQUARE 0, RIGHT and UP of"
            + " the SQUARE 1, and so on, by those numbers", SurfaceEdgesTest::digitsOfFive);
        edges.of(23, "questions change nothing", () -> Behind.question("code", Billiardry::code));
    }

    private static void leastAndGreatestCodes() {
        Check.same("the least", new Billiardry().code(), 0);
        Check.same("the greatest", Make.surface(GREATEST_CODE).code(), 3044628);
        Check.same("two apart", Make.surface("0011").code(), 6);
        Check.same("the least of five", Make.surface(FIVE_APART).code(), 101724);
        Check.same("the greatest of two", Make.surface("1100").code(), 150);
    }

    private static String numberedAnew(String digits, int[] order) {
        char[] anew = new char[digits.length()];
        for (int square = 0; square < order.length; square++) {
            for (int what = 0; what < 2; what++) {
                int other = digits.charAt(2 * square + what) - '0';
                anew[2 * order[square] + what] = (char) ('0' + order[other]);
            }
        }
        return new String(anew);
    }

    private static void numberedInAnyOrder() {
        String[] surfaces = {BEND, "02133021", MOST_KIN, GREATEST_CODE, "1021320344", "0013244132", "1001324324"};
        for (String digits : surfaces) {
            TreeSet<Integer> numbers = new TreeSet<>();
            for (int[] order : Make.orders(digits.length() / 2)) {
                numbers.add(Integer.parseInt(numberedAnew(digits, order), 5));
            }
            for (int[] order : Make.orders(digits.length() / 2)) {
                String anew = numberedAnew(digits, order);
                Check.same(digits + " as " + anew, Make.surface(anew).code(), numbers.first());
            }
        }
    }

    private static void digitsOfFive() {
        Check.same("two in a ROW", Make.surface("1001").code(), 125 + 1);
        Check.same("two in a column", Make.surface("0110").code(), 25 + 5);
        Check.same("the bend", Make.surface(BEND).code(), 625 + 2 * 125 + 5 + 2);
        Check.same("three in a ROW", Make.surface("102102").code(), Integer.parseInt("102102", 5));
        Check.same("three in a column", Make.surface("011220").code(), Integer.parseInt("011220", 5));
        Check.same("five in a ROW", Make.surface(FIVE_IN_A_ROW).code(), Integer.parseInt(FIVE_IN_A_ROW, 5));
    }

    // ---- promise 24

    private static void tellKin(Edges edges) {
        edges.of(24, "Returns how many KIN the SURFACE has: unlike CODES.", SurfaceEdgesTest::fewestAndMostKin);
        edges.of(24, "Its KIN are all CODES of SURFACES that one gets from it by shears and turns, any number of them"
            + " in any order", SurfaceEdgesTest::anyNumberInAnyOrder);
        edges.of(24, "its own with them", SurfaceEdgesTest::itsOwnWithThem);
        edges.of(24, "questions change nothing", () -> Behind.question("kin", Billiardry::kin));
    }

    private static void fewestAndMostKin() {
        Check.same("one SQUARE", new Billiardry().kin(), 1);
        Check.same("five apart", Make.surface(FIVE_APART).kin(), 1);
        Check.same("two in a ROW", Make.surface("1001").kin(), 3);
        Check.same("the bend", Make.surface(BEND).kin(), 3);
        Check.same("five in a ROW", Make.surface(FIVE_IN_A_ROW).kin(), 6);
        Check.same("a ROW of 2 and one of 3", Make.surface("1021024334").kin(), 3 * 4);
        Check.same("the most", Make.surface(MOST_KIN).kin(), 24);
    }

    private static String digitsOf(int code, int squares) {
        StringBuilder text = new StringBuilder(Integer.toString(code, 5));
        while (text.length() < 2 * squares) {
            text.insert(0, '0');
        }
        return text.toString();
    }

    /** All CODES that come by shear() and turn(), each on a SURFACE that is made from a CODE. */
    private static TreeSet<Integer> codesFrom(String digits) {
        TreeSet<Integer> found = new TreeSet<>();
        TreeSet<Integer> open = new TreeSet<>();
        open.add(Make.surface(digits).code());
        while (!open.isEmpty()) {
            int next = open.pollFirst();
            found.add(next);
            int sheared = Make.surface(digitsOf(next, digits.length() / 2)).shear();
            int turned = Make.surface(digitsOf(next, digits.length() / 2)).turn();
            for (int code : new int[] {sheared, turned}) {
                if (!found.contains(code)) {
                    open.add(code);
                }
            }
        }
        return found;
    }

    private static void anyNumberInAnyOrder() {
        String[] surfaces = {BEND, "0112234034", MOST_KIN, GREATEST_CODE, "0123144230", "1021320344", "1021024334"};
        for (String digits : surfaces) {
            TreeSet<Integer> codes = codesFrom(digits);
            for (int code : codes) {
                Billiardry surface = Make.surface(digitsOf(code, digits.length() / 2));
                Check.same("kin of " + digits + ", from " + code, surface.kin(), codes.size());
            }
        }
    }

    private static void itsOwnWithThem() {
        for (String digits : new String[] {"00", "0011", "001122", "00112233", FIVE_APART}) {
            Billiardry surface = Make.surface(digits);
            Check.same(digits + ", none but itself", surface.kin(), 1);
            Check.same(digits + " sheared", surface.shear(), surface.code());
            Check.same(digits + ", none but itself again", surface.kin(), 1);
        }
    }

    public static void main(String[] args) {
        Edges edges = new Edges();
        tell(edges);
        edges.run("SurfaceEdgesTest");
    }
}
