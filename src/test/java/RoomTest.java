/** Promises 1 to 10: the ROOM and its SHOTS. */
public final class RoomTest {
    private static final int WEST = 0, SOUTH = 1, EAST = 2, NORTH = 3;
    private static final int UP = 256;

    private RoomTest() {
    }

    private static int told(int x, int y, int side, boolean isUp) {
        return x + 8 * y + 64 * side + (isUp ? UP : 0);
    }

    private static void promise1New() {
        Billiardry room = new Billiardry();
        for (int cell = 0; cell < 64; cell++) {
            Check.same("new: block " + cell, room.block(cell % 8, cell / 8, false), false);
        }
        Check.same("new: paths", room.paths(), 16);
        Check.same("new: lit", room.lit(), 0);
        Check.same("new: lamp", room.lamp(0, 0), 0);
        Check.same("new: squares", room.count(0), 1);
        Check.same("new: right", room.square(0, 0), 0);
        Check.same("new: up", room.square(0, 1), 0);
        Check.same("new: cycles", room.cycles(), 0);
        Check.same("new: interval", room.interval(1), 0);
        Billiardry other = new Billiardry();
        Check.same("another new one has its own ROOM", other.lamp(1, 1), 0);
    }

    private static void promise2Block() {
        Billiardry room = new Billiardry();
        int[][] cells = {{0, 0}, {7, 0}, {0, 7}, {7, 7}, {3, 5}};
        for (int[] cell : cells) {
            Check.same("block first", room.block(cell[0], cell[1], true), false);
            Check.same("block again", room.block(cell[0], cell[1], true), true);
            Check.same("block away", room.block(cell[0], cell[1], false), true);
            Check.same("block away again", room.block(cell[0], cell[1], false), false);
        }
        room.block(3, 5, true);
        Check.same("x and y are not exchanged", room.block(5, 3, false), false);
        Check.index("block(-1, 0)", () -> room.block(-1, 0, true));
        Check.index("block(8, 0)", () -> room.block(8, 0, true));
        Check.index("block(0, -1)", () -> room.block(0, -1, true));
        Check.index("block(0, 8)", () -> room.block(0, 8, true));
        Check.index("block(least)", () -> room.block(Integer.MIN_VALUE, 0, false));
        Check.index("block(most)", () -> room.block(0, Integer.MAX_VALUE, false));
        Check.same("what was laid before still lies", room.block(3, 5, true), true);
    }

    private static void promises3To6InOneCell() {
        Billiardry room = Make.floor(7, 7);
        for (int side = WEST; side <= NORTH; side++) {
            for (int up = 0; up < 2; up++) {
                Check.same("one CELL: period", room.period(7, 7, side, up == 1), 4);
                Check.same("one CELL: periodAnew", room.periodAnew(7, 7, side, up == 1), 4);
                Check.same("one CELL: bounces", room.bounces(7, 7, side, up == 1), 4);
                Check.same("one CELL: touched", room.touched(7, 7, side, up == 1), 1);
            }
        }
        Check.same("one CELL: paths", room.paths(), 2);
        Check.sameFloat("one CELL: mean", room.mean(), 4.0f);
        int[] due = {told(7, 7, WEST, true), told(7, 7, NORTH, true), told(7, 7, EAST, false),
            told(7, 7, SOUTH, false), told(7, 7, WEST, true)};
        for (int steps = 0; steps < due.length; steps++) {
            Check.same("one CELL: state " + steps, room.state(7, 7, WEST, true, steps), due[steps]);
        }
        int[] other = {told(7, 7, WEST, false), told(7, 7, SOUTH, true), told(7, 7, EAST, true),
            told(7, 7, NORTH, false), told(7, 7, WEST, false)};
        for (int steps = 0; steps < other.length; steps++) {
            Check.same("one CELL, down: state " + steps, room.state(7, 7, WEST, false, steps), other[steps]);
        }
    }

    /** By hand: from WEST of 0, 0 up one comes through eight STATES, and bounces at six of their STEPS. */
    private static void promises3To8InTwoCells() {
        Billiardry room = Make.floor(0, 0, 1, 0);
        int[] due = {told(0, 0, WEST, true), told(0, 0, NORTH, true), told(1, 0, WEST, false),
            told(1, 0, SOUTH, true), told(1, 0, EAST, true), told(1, 0, NORTH, false),
            told(0, 0, EAST, false), told(0, 0, SOUTH, false)};
        int[] sides = {NORTH, SOUTH, EAST, NORTH, SOUTH, WEST};
        Check.same("two CELLS: period", room.period(0, 0, WEST, true), 8);
        Check.same("two CELLS: periodAnew", room.periodAnew(0, 0, WEST, true), 8);
        Check.same("two CELLS: bounces", room.bounces(0, 0, WEST, true), 6);
        Check.same("two CELLS: touched", room.touched(0, 0, WEST, true), 2);
        Check.same("two CELLS: paths", room.paths(), 2);
        Check.sameFloat("two CELLS: mean", room.mean(), 8.0f);
        for (int steps = 0; steps < 24; steps++) {
            Check.same("two CELLS: state " + steps, room.state(0, 0, WEST, true, steps), due[steps % 8]);
            Check.same("two CELLS: bounce " + steps, room.bounce(0, 0, WEST, true, steps), sides[steps % 6]);
        }
        Check.same("bounce from behind the first one", room.bounce(0, 0, NORTH, true, 0), SOUTH);
        Check.same("bounce from within", room.bounce(1, 0, WEST, false, 5), NORTH);
        Check.same("bounce 100000", room.bounce(0, 0, WEST, true, 100000), sides[100000 % 6]);
        Check.same("bounce 99999", room.bounce(0, 0, WEST, true, 99999), sides[99999 % 6]);
        Check.same("state 2147483647", room.state(0, 0, WEST, true, 2147483647), due[2147483647 % 8]);
        Check.same("state 2147483646", room.state(0, 0, WEST, true, 2147483646), due[2147483646 % 8]);
    }

    /** By hand, around a bend: 2, 5 with 2, 6 to its NORTH and 3, 5 to its EAST. */
    private static void promises3To8InABend() {
        Billiardry room = Make.floor(2, 5, 2, 6, 3, 5);
        int[] due = {told(2, 5, WEST, true), told(2, 6, SOUTH, true), told(2, 6, EAST, true),
            told(2, 6, NORTH, false), told(2, 6, WEST, false), told(2, 5, NORTH, true),
            told(3, 5, WEST, false), told(3, 5, SOUTH, true), told(3, 5, EAST, true),
            told(3, 5, NORTH, false), told(2, 5, EAST, false), told(2, 5, SOUTH, false)};
        int[] sides = {EAST, NORTH, WEST, SOUTH, EAST, NORTH, SOUTH, WEST};
        Check.same("bend: period", room.period(2, 5, WEST, true), 12);
        Check.same("bend: periodAnew", room.periodAnew(2, 5, WEST, true), 12);
        Check.same("bend: bounces", room.bounces(2, 5, WEST, true), 8);
        Check.same("bend: touched", room.touched(2, 5, WEST, true), 3);
        Check.same("bend: paths", room.paths(), 2);
        for (int steps = 0; steps < 36; steps++) {
            Check.same("bend: state " + steps, room.state(2, 5, WEST, true, steps), due[steps % 12]);
            Check.same("bend: bounce " + steps, room.bounce(2, 5, WEST, true, steps), sides[steps % 8]);
        }
    }

    private static void promises3To6InTheEmptyRoom() {
        Billiardry room = new Billiardry();
        Check.same("empty: period", room.period(0, 0, WEST, true), 32);
        Check.same("empty: bounces", room.bounces(0, 0, WEST, true), 4);
        Check.same("empty: touched", room.touched(0, 0, WEST, true), 22);
        Check.same("empty: touched on the diagonals", room.touched(3, 3, NORTH, true), 22);
        Check.sameFloat("empty: mean", room.mean(), 32.0f);
        for (int state = 0; state < 512; state += 5) {
            int x = state % 8;
            int y = state / 8 % 8;
            int side = state / 64 % 4;
            Check.same("empty: periodAnew", room.periodAnew(x, y, side, state >= UP), 32);
            Check.same("empty: state 0", room.state(x, y, side, state >= UP, 0), state);
            Check.same("empty: state 32", room.state(x, y, side, state >= UP, 32), state);
        }
    }

    private static void promises9And10() {
        Billiardry none = Make.floor();
        Check.same("no FLOOR: paths", none.paths(), 0);
        Check.sameFloat("no FLOOR: mean", none.mean(), 0.0f);
        Billiardry apart = Make.floor(0, 0, 2, 2, 7, 7, 6, 7);
        Check.same("two single CELLS and a pair: paths", apart.paths(), 6);
        Check.sameFloat("two single CELLS and a pair: mean", apart.mean(), 32.0f / 6.0f);
        Billiardry room = new Billiardry();
        room.block(3, 3, true);
        room.block(4, 3, true);
        Check.same("two BLOCKS: paths", room.paths(), 14);
        Check.sameFloat("two BLOCKS: mean", room.mean(), 496.0f / 14.0f);
        Check.same("two BLOCKS: period", room.period(2, 3, SOUTH, true), 44);
        Check.same("a BLOCK sends back", room.state(2, 3, SOUTH, true, 1), told(2, 3, EAST, true));
    }

    private interface Shot {
        int ask(int x, int y, int side);
    }

    private static void wrongShots(String name, Billiardry room, Shot shot) {
        int paths = room.paths();
        int[] wrong = {-1, 8, Integer.MIN_VALUE, Integer.MAX_VALUE};
        for (int place : wrong) {
            Check.index(name + " x " + place, () -> shot.ask(place, 0, 0));
            Check.index(name + " y " + place, () -> shot.ask(0, place, 0));
            Check.index(name + " x " + place + " and side", () -> shot.ask(place, 0, 4));
        }
        int[] sides = {-1, 4, Integer.MIN_VALUE, Integer.MAX_VALUE};
        for (int side : sides) {
            Check.argument(name + " side " + side, () -> shot.ask(0, 0, side));
            Check.argument(name + " side " + side + " in a BLOCK", () -> shot.ask(5, 6, side));
        }
        Check.standing(name + " in a BLOCK", () -> shot.ask(5, 6, 3));
        Check.same(name + " leaves the PATHS", room.paths(), paths);
    }

    private static void wrongCalls() {
        Billiardry room = new Billiardry();
        room.block(5, 6, true);
        wrongShots("period", room, (x, y, side) -> room.period(x, y, side, true));
        wrongShots("periodAnew", room, (x, y, side) -> room.periodAnew(x, y, side, true));
        wrongShots("bounces", room, (x, y, side) -> room.bounces(x, y, side, false));
        wrongShots("touched", room, (x, y, side) -> room.touched(x, y, side, false));
        wrongShots("bounce", room, (x, y, side) -> room.bounce(x, y, side, true, 0));
        wrongShots("state", room, (x, y, side) -> room.state(x, y, side, true, 0));
        Check.argument("bounce n -1", () -> room.bounce(0, 0, 0, true, -1));
        Check.argument("bounce n 100001", () -> room.bounce(0, 0, 0, true, 100001));
        Check.argument("bounce n 100001 in a BLOCK", () -> room.bounce(5, 6, 0, true, 100001));
        Check.index("bounce n -1 beyond the ROOM", () -> room.bounce(8, 6, 0, true, -1));
        Check.argument("state steps -1", () -> room.state(0, 0, 0, true, -1));
        Check.argument("state steps least", () -> room.state(0, 0, 0, true, Integer.MIN_VALUE));
        Check.argument("state steps -1 in a BLOCK", () -> room.state(5, 6, 0, true, -1));
        Check.index("state steps -1 beyond the ROOM", () -> room.state(0, -1, 0, true, -1));
        Check.standing("state in a BLOCK", () -> room.state(5, 6, 0, true, 2147483647));
        Check.standing("bounce in a BLOCK", () -> room.bounce(5, 6, 0, true, 100000));
    }

    public static void main(String[] args) {
        promise1New();
        promise2Block();
        promises3To6InOneCell();
        promises3To8InTwoCells();
        promises3To8InABend();
        promises3To6InTheEmptyRoom();
        promises9And10();
        wrongCalls();
        Check.end("RoomTest");
    }
}
