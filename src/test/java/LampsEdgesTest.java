/** Promises 11 to 15: each sentence that names a boundary case of the lamps. */
public final class LampsEdgesTest {
    private static final int LEAST = Integer.MIN_VALUE;
    private static final int MOST = Integer.MAX_VALUE;

    /** No x or y; some would be one, if they were cut off or wrapped around. */
    private static final int[] OUT = {-1, 8, 9, -8, 15, 64, 256, 65536, -65536, LEAST, LEAST + 1, MOST};

    private interface Sight {
        boolean ask(Billiardry room, int x, int y, int otherX, int otherY);
    }

    private static final Sight[] SIGHTS = {Billiardry::sees, Billiardry::seesAnew};

    private LampsEdgesTest() {
    }

    static void tell(Edges edges) {
        tellLamp(edges);
        for (int k = 0; k < SIGHTS.length; k++) {
            tellSight(edges, 12 + k, SIGHTS[k]);
        }
        edges.of(13, "Returns the same, found along the line, from one line between CELLS to the next one.",
            LampsEdgesTest::sameAlongTheLine);
        tellLit(edges);
        tellShare(edges);
    }

    // ---- promise 11

    private static void tellLamp(Edges edges) {
        edges.of(11, "Puts a lamp into a CELL.", LampsEdgesTest::intoThatCell);
        edges.of(11, "Lamps are numbered from 0", LampsEdgesTest::numberedFrom0);
        edges.of(11, "at most 6", LampsEdgesTest::atMost6);
        edges.of(11, "each in a CELL, whatever that is", LampsEdgesTest::whateverThatIs);
        edges.of(11, "several can be in one", LampsEdgesTest::severalInOne);
        edges.of(11, "Returns its number.", LampsEdgesTest::refusedOnesTakeNoNumber);
        edges.of(11, "Throws `IndexOutOfBoundsException` if there is no such CELL", LampsEdgesTest::noSuchCell);
        edges.of(11, "Throws `IllegalStateException` if there are 6", LampsEdgesTest::refusedWith6);
        edges.of(11, "If several apply, the one that is named first in the throws clause is thrown.",
            LampsEdgesTest::noCellBefore6);
        edges.of(11, "A call that throws an exception changes nothing.", LampsEdgesTest::refusedOnesDoNotLight);
    }

    /** With FLOOR in one CELL alone, that CELL is lit if the lamp is in it. */
    private static void intoThatCell() {
        for (int cell = 0; cell < 64; cell++) {
            Billiardry room = Make.floor();
            room.lamp(cell % 8, cell / 8);
            for (int other = 0; other < 64; other++) {
                room.block(other % 8, other / 8, false);
                Check.same("CELL " + other + " with a lamp in " + cell, room.lit(), other == cell ? 1 : 0);
                room.block(other % 8, other / 8, true);
            }
        }
    }

    private static void numberedFrom0() {
        Billiardry room = new Billiardry();
        for (int number = 0; number < 6; number++) {
            Check.same("lamp", room.lamp(number, 7 - number), number);
        }
    }

    private static void atMost6() {
        Billiardry room = Make.floor(5, 1);
        for (int lamp = 0; lamp < 5; lamp++) {
            room.lamp(0, 0);
        }
        Check.same("the sixth one", room.lamp(5, 1), 5);
        Check.same("the sixth one lights", room.lit(), 1);
        for (int lamp = 6; lamp < 20; lamp++) {
            Check.standing("one more", () -> room.lamp(1, 1));
        }
        Check.same("it still lights", room.lit(), 1);
    }

    private static void whateverThatIs() {
        Billiardry room = Make.floor();
        Check.same("into a BLOCK", room.lamp(7, 0), 0);
        Check.same("into another BLOCK", room.lamp(0, 7), 1);
        room.block(7, 0, false);
        Check.same("the BLOCK is taken away", room.lit(), 1);
        room.block(0, 7, false);
        Check.same("the other one, too", room.lit(), 2);
        room.block(7, 0, true);
        Check.same("a BLOCK comes onto a lamp", room.lit(), 1);
        room.block(7, 0, false);
        Check.same("the lamp is there still", room.lit(), 2);
    }

    private static void severalInOne() {
        Billiardry room = Make.floor(4, 4, 5, 4, 7, 7);
        for (int number = 0; number < 6; number++) {
            Check.same("into the same CELL", room.lamp(4, 4), number);
            Check.same("lit by several", room.lit(), 2);
        }
        Check.standing("the seventh into the same CELL", () -> room.lamp(4, 4));
    }

    private static void refusedOnesTakeNoNumber() {
        Billiardry room = new Billiardry();
        for (int number = 0; number < 6; number++) {
            Check.index("beyond the ROOM", () -> room.lamp(8, 0));
            Check.same("behind a refused one", room.lamp(0, 0), number);
            Check.index("beyond the ROOM again", () -> room.lamp(0, -1));
        }
        Check.standing("the seventh", () -> room.lamp(0, 0));
    }

    private static void noSuchCell() {
        for (int out : OUT) {
            Behind.index("lamp(" + out + ", 0)", b -> b.lamp(out, 0));
            Behind.index("lamp(7, " + out + ")", b -> b.lamp(7, out));
            Behind.index("lamp(" + out + ", itself)", b -> b.lamp(out, out));
        }
    }

    private static void refusedWith6() {
        for (int cell = 0; cell < 64; cell += 7) {
            int x = cell % 8;
            int y = cell / 8;
            Behind.standing("into CELL " + cell, b -> b.lamp(x, y), Make::full);
        }
        Behind.standing("into a BLOCK", b -> b.lamp(1, 2), Make::full);
    }

    private static void noCellBefore6() {
        for (int out : OUT) {
            Behind.index("six lamps, lamp(" + out + ", 0)", b -> b.lamp(out, 0), Make::full);
            Behind.index("six lamps, lamp(0, " + out + ")", b -> b.lamp(0, out), Make::full);
        }
    }

    /** If 8 were 0 of the next y, or -1 were 7 of the one before, these lamps would light. */
    private static void refusedOnesDoNotLight() {
        Billiardry room = new Billiardry();
        Check.index("lamp(8, 0)", () -> room.lamp(8, 0));
        Check.index("lamp(-1, 1)", () -> room.lamp(-1, 1));
        Check.index("lamp(0, 8)", () -> room.lamp(0, 8));
        Check.index("lamp(7, -1)", () -> room.lamp(7, -1));
        Check.same("lit", room.lit(), 0);
        Billiardry full = Make.floor(0, 0, 7, 7);
        for (int lamp = 0; lamp < 6; lamp++) {
            full.lamp(0, 0);
        }
        Check.standing("the seventh", () -> full.lamp(7, 7));
        Check.same("the seventh does not light", full.lit(), 1);
        full.block(0, 0, true);
        Check.same("nor does it in place of another", full.lit(), 0);
    }

    // ---- promises 12 and 13

    private static void tellSight(Edges edges, int promise, Sight sight) {
        String notFromBlocks = promise == 12 ? "not, if one is a BLOCK" : "Two FLOOR CELLS see each other";
        edges.of(promise, notFromBlocks, () -> notFromBlocks(sight));
        edges.of(promise, "the straight line from the middle of the one to the middle of the other, both ends with"
            + " it, meets no BLOCK of the 64", () -> eachLineAndEachBlock(sight));
        edges.of(promise, "also not the rim of one, its corners with that", () -> corners(sight));
        edges.of(promise, "both ends with it", () -> bothEnds(sight));
        edges.of(promise, "of the 64", () -> nothingBeyond(sight));
        edges.of(promise, "a FLOOR CELL sees itself", () -> itself(sight));
        edges.of(promise, "Throws `IndexOutOfBoundsException` if there is no such CELL, of either",
            () -> noSuchCellOfEither(sight));
        edges.of(promise, "questions change nothing", () -> Behind.question("a sight", b -> sight.ask(b, 7, 0, 0, 6)));
        String eachOther = promise == 12 ? "Returns whether two CELLS see each other" : "see each other";
        edges.of(promise, eachOther, () -> eachOther(sight));
    }

    private static void same(String what, Sight sight, Billiardry room, int[] ends, boolean due) {
        Check.same(what, sight.ask(room, ends[0], ends[1], ends[2], ends[3]), due);
        Check.same(what + ", from the other end", sight.ask(room, ends[2], ends[3], ends[0], ends[1]), due);
    }

    private static void notFromBlocks(Sight sight) {
        for (int cell = 0; cell < 64; cell++) {
            Billiardry room = Make.blocks(cell % 8, cell / 8);
            for (int other = 0; other < 64; other++) {
                int[] ends = {cell % 8, cell / 8, other % 8, other / 8};
                same("a BLOCK in " + cell + " and CELL " + other, sight, room, ends, false);
            }
        }
        Check.same("two BLOCKS", sight.ask(Make.blocks(0, 0, 7, 0), 0, 0, 7, 0), false);
        Check.same("two BLOCKS side by side", sight.ask(Make.blocks(3, 3, 4, 3), 3, 3, 4, 3), false);
        Check.same("all BLOCKS", sight.ask(Make.floor(), 5, 5, 2, 1), false);
    }

    private static void eachLineAndEachBlock(Sight sight) {
        for (int block = 0; block < 64; block++) {
            Oracle due = new Oracle();
            due.block(block % 8, block / 8, true);
            for (int cell = 0; cell < 64; cell++) {
                Billiardry room = Make.blocks(block % 8, block / 8);
                for (int other = 0; other < 64; other++) {
                    Check.same("BLOCK " + block + ", from " + cell + " to " + other,
                        sight.ask(room, cell % 8, cell / 8, other % 8, other / 8),
                        due.sees(cell % 8, cell / 8, other % 8, other / 8));
                }
            }
        }
    }

    /** Each a line that meets no more of the BLOCK than one corner, then the BLOCK that it just passes by. */
    private static void corners(Sight sight) {
        int[][] lines = {
            {0, 0, 1, 1, 1, 0}, {0, 0, 1, 1, 0, 1}, {7, 7, 6, 6, 7, 6}, {0, 0, 7, 7, 4, 3}, {7, 0, 0, 7, 3, 3},
            {0, 0, 3, 1, 1, 1}, {0, 0, 3, 1, 2, 0}, {0, 0, 1, 3, 1, 1}, {0, 0, 1, 3, 0, 2}, {0, 7, 3, 6, 2, 7},
            {0, 0, 5, 3, 2, 2}, {0, 0, 5, 3, 3, 1}, {0, 0, 7, 1, 3, 1}, {0, 0, 7, 1, 4, 0}, {0, 0, 7, 5, 3, 3},
            {0, 0, 7, 5, 4, 2}, {7, 0, 0, 3, 3, 1}, {7, 0, 0, 3, 4, 2}, {1, 1, 7, 3, 2, 2}, {1, 1, 7, 3, 6, 2},
        };
        for (int[] line : lines) {
            same("the corner of " + line[4] + ", " + line[5], sight, Make.blocks(line[4], line[5]), line, false);
        }
        int[][] past = {
            {0, 0, 7, 6, 0, 1}, {0, 0, 7, 6, 7, 5}, {0, 0, 2, 1, 0, 1}, {0, 0, 2, 1, 2, 0}, {0, 0, 3, 1, 0, 1},
            {0, 0, 3, 1, 3, 0}, {0, 0, 7, 7, 2, 0}, {0, 0, 7, 7, 3, 5}, {0, 0, 7, 1, 2, 1}, {0, 0, 7, 1, 5, 0},
            {0, 0, 5, 3, 1, 2}, {0, 0, 5, 3, 4, 1}, {7, 0, 0, 3, 5, 2}, {3, 3, 6, 3, 4, 2}, {3, 3, 6, 3, 4, 4},
        };
        for (int[] line : past) {
            same("past " + line[4] + ", " + line[5], sight, Make.blocks(line[4], line[5]), line, true);
        }
    }

    /** Behind the ends nothing is in the way, and between them the CELL beside either end is. */
    private static void bothEnds(Sight sight) {
        int[] row = {2, 4, 5, 4};
        same("behind the ends", sight, Make.blocks(1, 4, 6, 4), row, true);
        same("at one end", sight, Make.blocks(2, 4), row, false);
        same("at the other end", sight, Make.blocks(5, 4), row, false);
        same("beside one end", sight, Make.blocks(3, 4), row, false);
        same("beside the other end", sight, Make.blocks(4, 4), row, false);
        int[] column = {4, 2, 4, 5};
        same("a column, behind the ends", sight, Make.blocks(4, 1, 4, 6), column, true);
        same("a column, at the end", sight, Make.blocks(4, 5), column, false);
        int[] slope = {1, 1, 4, 4};
        same("a slope, behind the ends", sight, Make.blocks(0, 0, 5, 5, 1, 0, 5, 4, 0, 1, 4, 5), slope, true);
        same("a slope, at the end", sight, Make.blocks(4, 4), slope, false);
    }

    /** Whatever lies beyond the ROOM is BLOCK, too, but none of the 64. */
    private static void nothingBeyond(Sight sight) {
        int[][] ends = {{0, 0, 7, 0}, {7, 0, 7, 7}, {7, 7, 0, 7}, {0, 7, 0, 0}, {0, 0, 7, 7}, {0, 7, 7, 0}};
        for (int[] line : ends) {
            same("along the rim", sight, new Billiardry(), line, true);
        }
        for (int cell = 0; cell < 64; cell++) {
            Billiardry room = new Billiardry();
            for (int other = 0; other < 64; other++) {
                boolean does = sight.ask(room, cell % 8, cell / 8, other % 8, other / 8);
                Check.same("without BLOCKS, from " + cell + " to " + other, does, true);
            }
        }
    }

    private static void itself(Sight sight) {
        for (int cell = 0; cell < 64; cell++) {
            int x = cell % 8;
            int y = cell / 8;
            Check.same("CELL " + cell, sight.ask(new Billiardry(), x, y, x, y), true);
            Check.same("CELL " + cell + " among BLOCKS", sight.ask(Make.floor(x, y), x, y, x, y), true);
            Check.same("CELL " + cell + ", a BLOCK", sight.ask(Make.blocks(x, y), x, y, x, y), false);
        }
    }

    private static void eachOther(Sight sight) {
        Billiardry room = Make.blocks(2, 2, 5, 2, 0, 7, 3, 5, 4, 4, 6, 6);
        for (int cell = 0; cell < 64; cell += 5) {
            for (int other = 0; other < 64; other += 3) {
                boolean does = sight.ask(room, cell % 8, cell / 8, other % 8, other / 8);
                boolean back = sight.ask(room, other % 8, other / 8, cell % 8, cell / 8);
                Check.same("CELLS " + cell + " and " + other, back, does);
            }
            room = Make.blocks(2, 2, 5, 2, 0, 7, 3, 5, 4, 4, 6, 6);
        }
    }

    private static void noSuchCellOfEither(Sight sight) {
        for (int out : OUT) {
            Behind.index("x " + out, b -> sight.ask(b, out, 0, 7, 0), Make::some);
            Behind.index("y " + out, b -> sight.ask(b, 7, out, 7, 0), Make::some);
            Behind.index("otherX " + out, b -> sight.ask(b, 7, 0, out, 0), Make::some);
            Behind.index("otherY " + out, b -> sight.ask(b, 7, 0, 7, out), Make::some);
            Check.index("both " + out, () -> sight.ask(Make.full(), out, out, out, out));
            Check.index("from a BLOCK to " + out, () -> sight.ask(Make.full(), 1, 2, out, 2));
            Check.index("from " + out + " to a BLOCK", () -> sight.ask(Make.full(), 1, out, 1, 2));
        }
        Check.index("just beside the CELL", () -> sight.ask(Make.bare(), 7, 0, 8, 0));
        Check.index("just below the CELL", () -> sight.ask(Make.bare(), 0, -1, 0, 0));
    }

    private static void sameAlongTheLine() {
        int[][] rooms = {
            {}, {3, 3, 4, 3}, {2, 2, 5, 2, 0, 7, 3, 5, 4, 4, 6, 6}, {0, 1, 1, 0, 7, 6, 6, 7},
            {1, 1, 3, 1, 5, 1, 1, 3, 3, 3, 5, 3, 1, 5, 3, 5, 5, 5}, {0, 4, 1, 4, 2, 4, 3, 4, 5, 4, 6, 4, 7, 4},
        };
        for (int[] cells : rooms) {
            for (int cell = 0; cell < 64; cell++) {
                Billiardry room = Make.blocks(cells);
                for (int other = 0; other < 64; other++) {
                    Check.same("from " + cell + " to " + other,
                        room.seesAnew(cell % 8, cell / 8, other % 8, other / 8),
                        room.sees(cell % 8, cell / 8, other % 8, other / 8));
                }
            }
        }
    }

    // ---- promise 14

    private static void tellLit(Edges edges) {
        edges.of(14, "Returns how many FLOOR CELLS are lit.", LampsEdgesTest::noneToAllLit);
        edges.of(14, "A FLOOR CELL is lit, if it sees the CELL of a lamp", LampsEdgesTest::litBySight);
        edges.of(14, "a lamp in a BLOCK lights nothing", LampsEdgesTest::lampInBlock);
        edges.of(14, "questions change nothing", () -> Behind.question("lit", Billiardry::lit));
    }

    private static void noneToAllLit() {
        Billiardry room = new Billiardry();
        Check.same("no lamps", room.lit(), 0);
        room.lamp(0, 7);
        Check.same("all", room.lit(), 64);
        room.block(0, 0, true);
        Check.same("a BLOCK that is seen is not lit", room.lit(), 63);
        Billiardry none = Make.floor();
        none.lamp(3, 3);
        Check.same("no FLOOR", none.lit(), 0);
        Billiardry one = Make.floor(7, 7);
        one.lamp(7, 7);
        Check.same("one CELL", one.lit(), 1);
        Billiardry six = new Billiardry();
        for (int lamp = 0; lamp < 6; lamp++) {
            six.lamp(lamp, 7);
            Check.same("all, by several lamps", six.lit(), 64);
        }
    }

    /** Each of six lamps lights a CELL that is apart from all others. */
    private static void litBySight() {
        Billiardry room = Make.floor(0, 0, 2, 0, 4, 0, 6, 0, 0, 2, 2, 2, 4, 2);
        for (int lamp = 0; lamp < 6; lamp++) {
            Check.same("lit by " + lamp, room.lit(), lamp);
            room.lamp(lamp < 4 ? 2 * lamp : 2 * lamp - 8, lamp < 4 ? 0 : 2);
        }
        Check.same("lit by six", room.lit(), 6);
        for (int cell = 0; cell < 64; cell++) {
            Billiardry one = Make.blocks(3, 3, 4, 3, 5, 6, 1, 5);
            one.lamp(cell % 8, cell / 8);
            int seen = 0;
            for (int other = 0; other < 64; other++) {
                seen += one.sees(other % 8, other / 8, cell % 8, cell / 8) ? 1 : 0;
            }
            Check.same("a lamp in CELL " + cell, one.lit(), seen);
        }
    }

    private static void lampInBlock() {
        for (int cell = 0; cell < 64; cell += 9) {
            Billiardry room = Make.blocks(cell % 8, cell / 8);
            room.lamp(cell % 8, cell / 8);
            Check.same("a lamp in the BLOCK " + cell, room.lit(), 0);
            room.block(cell % 8, cell / 8, false);
            Check.same("the BLOCK " + cell + " is away", room.lit(), 64);
        }
    }

    // ---- promise 15

    private static void tellShare(Edges edges) {
        edges.of(15, "Returns how many FLOOR CELLS are lit, by how many there are, divided as floats",
            LampsEdgesTest::shareAsFloats);
        edges.of(15, "0.0f without FLOOR", LampsEdgesTest::shareWithoutFloor);
        edges.of(15, "questions change nothing", () -> Behind.question("share", Billiardry::share));
    }

    private static void shareAsFloats() {
        Billiardry room = Make.floor(0, 0, 2, 0, 4, 0, 6, 0, 0, 2, 2, 2, 4, 2);
        Check.sameFloat("no lamps", room.share(), 0.0f);
        int[][] cells = {{0, 0}, {2, 0}, {4, 0}, {6, 0}, {0, 2}, {2, 2}};
        for (int lit = 1; lit <= 6; lit++) {
            room.lamp(cells[lit - 1][0], cells[lit - 1][1]);
            Check.sameFloat(lit + " of 7", room.share(), (float) lit / 7.0f);
        }
        room.block(4, 2, true);
        Check.sameFloat("all", room.share(), 1.0f);
        Billiardry blocks = Make.blocks(3, 3, 4, 3);
        blocks.lamp(0, 0);
        Check.sameFloat("46 of 62", blocks.share(), 46.0f / 62.0f);
        Billiardry dark = Make.blocks(1, 2);
        dark.lamp(1, 2);
        Check.sameFloat("a lamp in a BLOCK", dark.share(), 0.0f);
    }

    private static void shareWithoutFloor() {
        Billiardry room = Make.floor();
        Check.sameFloat("no FLOOR, no lamps", room.share(), 0.0f);
        room.lamp(0, 0);
        Check.sameFloat("no FLOOR", room.share(), 0.0f);
        room.block(0, 0, false);
        Check.sameFloat("one CELL", room.share(), 1.0f);
        room.block(0, 0, true);
        Check.sameFloat("no FLOOR again", room.share(), 0.0f);
    }

    public static void main(String[] args) {
        Edges edges = new Edges();
        tell(edges);
        edges.run("LampsEdgesTest");
    }
}
