/** Promises 11 to 15: lamps, and what CELLS see of each other. */
public final class LampsTest {
    private LampsTest() {
    }

    private static void sight(String what, Billiardry room, int x, int y, int otherX, int otherY, boolean due) {
        Check.same(what + ": sees", room.sees(x, y, otherX, otherY), due);
        Check.same(what + ": sees, the other way", room.sees(otherX, otherY, x, y), due);
        Check.same(what + ": seesAnew", room.seesAnew(x, y, otherX, otherY), due);
        Check.same(what + ": seesAnew, the other way", room.seesAnew(otherX, otherY, x, y), due);
    }

    private static void promise11Lamp() {
        Billiardry room = Make.blocks(2, 2);
        int[][] cells = {{0, 0}, {7, 7}, {2, 2}, {0, 0}, {7, 0}, {0, 7}};
        for (int number = 0; number < 6; number++) {
            Check.same("lamp " + number, room.lamp(cells[number][0], cells[number][1]), number);
        }
        Check.standing("lamp 6", () -> room.lamp(1, 1));
        Check.standing("lamp 6 again", () -> room.lamp(0, 0));
        Check.index("lamp 6 beyond the ROOM", () -> room.lamp(8, 0));
        Billiardry other = new Billiardry();
        Check.index("lamp(-1, 0)", () -> other.lamp(-1, 0));
        Check.index("lamp(8, 0)", () -> other.lamp(8, 0));
        Check.index("lamp(0, -1)", () -> other.lamp(0, -1));
        Check.index("lamp(0, 8)", () -> other.lamp(0, 8));
        Check.same("no lamp came", other.lit(), 0);
        Check.same("the numbers go on as if nothing had been", other.lamp(0, 0), 0);
    }

    private static void promises12And13InTheEmptyRoom() {
        for (int cell = 0; cell < 64; cell++) {
            Billiardry room = new Billiardry();
            for (int other = 0; other < 64; other++) {
                sight("empty", room, cell % 8, cell / 8, other % 8, other / 8, true);
            }
        }
    }

    private static void promises12And13() {
        sight("across a corner, right", Make.blocks(1, 0), 0, 0, 1, 1, false);
        sight("across a corner, up", Make.blocks(0, 1), 0, 0, 1, 1, false);
        sight("across a corner, both", Make.blocks(0, 1, 1, 0), 0, 0, 1, 1, false);
        sight("the other diagonal", Make.blocks(3, 3), 3, 4, 4, 3, false);
        sight("a diagonal beside a BLOCK", Make.blocks(0, 2, 2, 0), 0, 0, 7, 7, true);
        sight("a long diagonal's corner", Make.blocks(4, 3), 0, 0, 7, 7, false);
        sight("beside the line", Make.blocks(0, 1, 2, 0), 0, 0, 2, 1, true);
        sight("on the line, right", Make.blocks(1, 0), 0, 0, 2, 1, false);
        sight("on the line, up", Make.blocks(1, 1), 0, 0, 2, 1, false);
        sight("a corner on a third, right", Make.blocks(2, 0), 0, 0, 3, 1, false);
        sight("a corner on a third, up", Make.blocks(1, 1), 0, 0, 3, 1, false);
        sight("beside a third", Make.blocks(3, 0, 0, 1), 0, 0, 3, 1, true);
        sight("a corner on a third, steep", Make.blocks(0, 2), 0, 0, 1, 3, false);
        sight("along a row", Make.blocks(0, 3, 4, 2, 4, 4, 7, 3), 1, 3, 6, 3, true);
        sight("along a row with a BLOCK", Make.blocks(4, 3), 1, 3, 6, 3, false);
        sight("along a column", Make.blocks(3, 0, 2, 4, 4, 4, 3, 7), 3, 1, 3, 6, true);
        sight("along a column with a BLOCK", Make.blocks(3, 4), 3, 1, 3, 6, false);
        sight("behind the end", Make.blocks(7, 7), 0, 0, 6, 6, true);
        sight("itself", Make.blocks(3, 4, 5, 4, 4, 3, 4, 5), 4, 4, 4, 4, true);
        sight("a BLOCK itself", Make.blocks(4, 4), 4, 4, 4, 4, false);
        sight("a BLOCK at the end", Make.blocks(0, 0), 0, 0, 1, 0, false);
        sight("neighbours", Make.blocks(2, 1), 0, 0, 1, 0, true);
        Check.same("no FLOOR: sees", Make.floor().sees(0, 0, 7, 7), false);
        Check.same("no FLOOR: seesAnew", Make.floor().seesAnew(0, 0, 7, 7), false);
    }

    private static void wrongSights() {
        Billiardry room = new Billiardry();
        int[] wrong = {-1, 8, Integer.MIN_VALUE, Integer.MAX_VALUE};
        for (int place : wrong) {
            Check.index("sees x", () -> room.sees(place, 0, 0, 0));
            Check.index("sees y", () -> room.sees(0, place, 0, 0));
            Check.index("sees otherX", () -> room.sees(0, 0, place, 0));
            Check.index("sees otherY", () -> room.sees(0, 0, 0, place));
            Check.index("seesAnew x", () -> room.seesAnew(place, 0, 0, 0));
            Check.index("seesAnew y", () -> room.seesAnew(0, place, 0, 0));
            Check.index("seesAnew otherX", () -> room.seesAnew(0, 0, place, 0));
            Check.index("seesAnew otherY", () -> room.seesAnew(0, 0, 0, place));
        }
        room.block(0, 0, true);
        Check.index("sees from a BLOCK out of the ROOM", () -> room.sees(0, 0, 8, 8));
        Check.index("seesAnew from a BLOCK out of the ROOM", () -> room.seesAnew(0, 0, 8, 8));
    }

    private static void promises14And15() {
        Billiardry room = new Billiardry();
        Check.same("no lamps: lit", room.lit(), 0);
        Check.sameFloat("no lamps: share", room.share(), 0.0f);
        room.lamp(3, 3);
        Check.same("an empty ROOM: lit", room.lit(), 64);
        Check.sameFloat("an empty ROOM: share", room.share(), 1.0f);
        room.block(3, 3, true);
        Check.same("a lamp in a BLOCK: lit", room.lit(), 0);
        Check.sameFloat("a lamp in a BLOCK: share", room.share(), 0.0f);
        room.block(3, 3, false);
        Check.same("the BLOCK is away: lit", room.lit(), 64);
        for (int y = 0; y < 8; y++) {
            room.block(5, y, true);
        }
        Check.same("behind a wall: lit", room.lit(), 40);
        Check.sameFloat("behind a wall: share", room.share(), 40.0f / 56.0f);
        room.lamp(7, 0);
        Check.same("a lamp on either side: lit", room.lit(), 56);
        Check.sameFloat("a lamp on either side: share", room.share(), 1.0f);
        room.lamp(7, 0);
        Check.same("two in one CELL: lit", room.lit(), 56);
        Billiardry corner = Make.blocks(3, 3, 4, 3);
        corner.lamp(0, 0);
        Check.same("two BLOCKS: lit", corner.lit(), 46);
        Check.sameFloat("two BLOCKS: share", corner.share(), 46.0f / 62.0f);
        Billiardry none = Make.floor();
        none.lamp(0, 0);
        Check.same("no FLOOR: lit", none.lit(), 0);
        Check.sameFloat("no FLOOR: share", none.share(), 0.0f);
        Check.same("six lamps: numbers", lampsAt(none, 5), 5);
        none.block(7, 7, false);
        Check.sameFloat("dark FLOOR: share", none.share(), 0.0f);
        none.block(0, 0, false);
        Check.sameFloat("half of the FLOOR: share", none.share(), 0.5f);
        Billiardry single = Make.floor();
        single.block(2, 5, false);
        single.lamp(5, 2);
        Check.same("x and y are not exchanged: lit", single.lit(), 0);
        single.lamp(2, 5);
        Check.same("one CELL of FLOOR: lit", single.lit(), 1);
        Check.sameFloat("one CELL of FLOOR: share", single.share(), 1.0f);
        Billiardry last = Make.floor();
        lampsAt(last, 5);
        last.lamp(6, 6);
        last.block(6, 6, false);
        Check.same("the sixth lamp: lit", last.lit(), 1);
    }

    private static int lampsAt(Billiardry room, int many) {
        int number = -1;
        for (int k = 0; k < many; k++) {
            number = room.lamp(0, 0);
        }
        return number;
    }

    public static void main(String[] args) {
        promise11Lamp();
        promises12And13InTheEmptyRoom();
        promises12And13();
        wrongSights();
        promises14And15();
        Check.end("LampsTest");
    }
}
