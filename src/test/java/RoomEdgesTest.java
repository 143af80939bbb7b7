/** Promises 1 to 10: each sentence that names a boundary case of the ROOM. */
public final class RoomEdgesTest {
    private static final int LEAST = Integer.MIN_VALUE;
    private static final int MOST = Integer.MAX_VALUE;
    private static final int WEST = 0, SOUTH = 1, EAST = 2, NORTH = 3;
    private static final int UP = 256;

    /** No x or y, and no SIDE; some would be one, if they were cut off or wrapped around. */
    private static final int[] OUT = {-1, 8, 9, -8, 15, 64, 256, 65536, -65536, LEAST, LEAST + 1, MOST};
    private static final int[] NO_SIDE = {-1, 4, 5, 7, -4, 64, 256, 65536, LEAST, LEAST + 1, MOST};

    private interface ShotCall {
        int ask(Billiardry room, int x, int y, int side, boolean isUp);
    }

    /** The calls of promises 3 to 8, with the least n or steps. */
    private static final ShotCall[] SHOTS = {
        Billiardry::period, Billiardry::periodAnew, Billiardry::bounces, Billiardry::touched,
        (room, x, y, side, isUp) -> room.bounce(x, y, side, isUp, 0),
        (room, x, y, side, isUp) -> room.state(x, y, side, isUp, 0),
    };

    private static final String FOR_WHICH_SIDE_IT_IS_UP =
        "- `isUp`: whether it is HEADED up along its SIDE: along y at WEST and EAST, along x at SOUTH and NORTH";

    private RoomEdgesTest() {
    }

    static void tell(Edges edges) {
        tellNew(edges);
        tellBlock(edges);
        tellShots(edges);
        tellPeriod(edges);
        tellSteps(edges);
        tellBounces(edges);
        tellPaths(edges);
    }

    // ---- promise 1

    private static void tellNew(Edges edges) {
        edges.of(1, "A ROOM of FLOOR", RoomEdgesTest::newIsFloor);
        edges.of(1, "no lamps", RoomEdgesTest::newHasNoLamps);
        edges.of(1, "a SURFACE of one SQUARE", RoomEdgesTest::newHasOneSquare);
        edges.of(1, "no INTERVALS", RoomEdgesTest::newHasNoIntervals);
        edges.of(1, "A ROOM of FLOOR, no lamps, a SURFACE of one SQUARE, no INTERVALS.", RoomEdgesTest::newIsApart);
        edges.of(1, "An object is used for at most 512 calls after it has been made", RoomEdgesTest::lastCall);
    }

    private static void newIsFloor() {
        Billiardry room = new Billiardry();
        for (int cell = 0; cell < 64; cell++) {
            Check.same("block of CELL " + cell, room.block(cell % 8, cell / 8, false), false);
            Check.same("CELL " + cell + " sees itself", room.sees(cell % 8, cell / 8, cell % 8, cell / 8), true);
        }
        Check.same("paths", room.paths(), 16);
        Check.sameFloat("mean", room.mean(), 32.0f);
    }

    private static void newHasNoLamps() {
        Billiardry room = new Billiardry();
        Check.same("lit", room.lit(), 0);
        Check.sameFloat("share", room.share(), 0.0f);
        Check.same("the first lamp", room.lamp(7, 7), 0);
    }

    private static void newHasOneSquare() {
        Billiardry surface = new Billiardry();
        int[] told = {0, 0, 0, 0, 1, 1, 1};
        for (int what = 0; what <= 6; what++) {
            Check.same("square(0, " + what + ")", surface.square(0, what), told[what]);
        }
        for (int what = 0; what <= 4; what++) {
            Check.same("count(" + what + ")", surface.count(what), 1);
        }
        Check.index("square(1, 0)", () -> surface.square(1, 0));
        Check.same("genus", surface.genus(), 1);
        Check.same("code", surface.code(), 0);
        Check.same("kin", surface.kin(), 1);
        Check.same("surface", surface.surface(2), 1);
    }

    private static void newHasNoIntervals() {
        Billiardry exchange = new Billiardry();
        Check.index("told(0, 0)", () -> exchange.told(0, 0));
        Check.index("image(0)", () -> exchange.image(0));
        Check.index("swap(0, 0)", () -> exchange.swap(0, 0));
        Check.standing("induce", exchange::induce);
        Check.same("cycles", exchange.cycles(), 0);
        Check.same("apart", exchange.apart(), 0);
        Check.same("the first INTERVAL", exchange.interval(50), 0);
    }

    private static void newIsApart() {
        Billiardry before = Make.full();
        String stood = Probe.of(Make.full());
        Check.sameText("a new one behind one that is full", Probe.of(new Billiardry()), Probe.of(Make.bare()));
        Check.sameText("the full one behind a new one", Probe.of(before), stood);
    }

    /** Behind 511 calls; the next one is the last one for which an object is used. */
    private static Billiardry used() {
        Billiardry asked = new Billiardry();
        int calls = 0;
        for (int k = 0; k < 6; k++) {
            asked.lamp(k, k);
            asked.interval(50 - k);
            calls += 2;
        }
        asked.surface(5);
        asked.glue(0, 4, true);
        asked.swap(0, 5);
        calls += 3;
        while (calls < 510) {
            asked.block(calls / 2 % 8, calls / 16 % 8, calls % 2 == 0);
            calls++;
        }
        asked.block(7, 7, true);
        return asked;
    }

    private static void lastCall() {
        Check.same("block", used().block(7, 7, true), true);
        Check.same("period", used().period(0, 4, WEST, true), 32);
        Check.standing("period in a BLOCK", () -> used().period(7, 7, WEST, true));
        Check.index("period beyond the ROOM", () -> used().period(8, 7, WEST, true));
        Check.same("sees", used().sees(0, 0, 6, 6), true);
        Check.same("lit", used().lit(), 63);
        Check.standing("lamp", () -> used().lamp(0, 0));
        Check.same("surface", used().surface(1), 5);
        Check.same("count of PIECES", used().count(2), 4);
        Check.same("kin", used().kin(), 3);
        Check.same("told", used().told(5, 2), 45);
        Check.same("induce", used().induce(), 240);
        Check.same("apart", used().apart(), 6);
        Check.standing("interval", () -> used().interval(1));
    }

    // ---- promise 2

    private static void tellBlock(Edges edges) {
        edges.of(2, "The ROOM has 64 CELLS, at x and y from 0 to 7 each", RoomEdgesTest::eachCellIsItsOwn);
        edges.of(2, "each is FLOOR, as at first, or a BLOCK", RoomEdgesTest::floorOrBlock);
        edges.of(2, "Lays a BLOCK, or takes it away.", RoomEdgesTest::laysAndTakesAway);
        edges.of(2, "- `x`: 0 to 7", RoomEdgesTest::blockX);
        edges.of(2, "- `y`: 0 to 7", RoomEdgesTest::blockY);
        edges.of(2, "- `is`: whether it is a BLOCK from now on", RoomEdgesTest::blockFromNowOn);
        edges.of(2, "Returns whether it was.", RoomEdgesTest::blockWas);
        edges.of(2, "Throws `IndexOutOfBoundsException` if there is no such CELL", RoomEdgesTest::blockRefused);
        edges.of(2, "A call that throws an exception changes nothing.", RoomEdgesTest::blockRefusedChangesNothing);
    }

    private static void eachCellIsItsOwn() {
        for (int cell = 0; cell < 64; cell++) {
            Billiardry room = Make.blocks(cell % 8, cell / 8);
            for (int other = 0; other < 64; other++) {
                boolean is = room.block(other % 8, other / 8, other == cell);
                Check.same("CELL " + other + " with a BLOCK in CELL " + cell, is, other == cell);
            }
        }
    }

    private static void floorOrBlock() {
        Billiardry room = new Billiardry();
        Make.blockAll(room);
        for (int cell = 0; cell < 64; cell++) {
            int x = cell % 8;
            int y = cell / 8;
            Check.standing("a SHOT in the BLOCK " + cell, () -> room.period(x, y, WEST, true));
            room.block(x, y, false);
            Check.same("a SHOT in the FLOOR of CELL " + cell, room.period(x, y, WEST, true), 4);
            room.block(x, y, true);
        }
    }

    private static void laysAndTakesAway() {
        Billiardry room = new Billiardry();
        Check.same("paths of FLOOR", room.paths(), 16);
        room.block(3, 3, true);
        room.block(4, 3, true);
        Check.same("paths with two BLOCKS", room.paths(), 14);
        room.block(3, 3, false);
        room.block(4, 3, false);
        Check.same("paths of FLOOR again", room.paths(), 16);
    }

    private static void blockX() {
        for (int x = 0; x < 8; x++) {
            Billiardry room = new Billiardry();
            Check.same("x " + x, room.block(x, 5, true), false);
            Check.same("x " + x + " again", room.block(x, 5, true), true);
        }
        Behind.index("x -1", b -> b.block(-1, 5, true));
        Behind.index("x 8", b -> b.block(8, 5, true));
    }

    private static void blockY() {
        for (int y = 0; y < 8; y++) {
            Billiardry room = new Billiardry();
            Check.same("y " + y, room.block(6, y, true), false);
            Check.same("y " + y + " again", room.block(6, y, true), true);
        }
        Behind.index("y -1", b -> b.block(6, -1, true));
        Behind.index("y 8", b -> b.block(6, 8, true));
    }

    private static void blockFromNowOn() {
        Billiardry room = new Billiardry();
        boolean[] laid = {false, true, true, false, false, true, false};
        for (int k = 0; k < laid.length; k++) {
            room.block(7, 0, laid[k]);
            Check.same("FLOOR behind call " + k, room.sees(7, 0, 7, 0), !laid[k]);
            Check.same("paths behind call " + k, room.paths(), laid[k] ? 14 : 16);
        }
    }

    private static void blockWas() {
        Billiardry room = new Billiardry();
        Check.same("FLOOR that stays FLOOR", room.block(0, 7, false), false);
        Check.same("FLOOR that becomes a BLOCK", room.block(0, 7, true), false);
        Check.same("a BLOCK that stays a BLOCK", room.block(0, 7, true), true);
        Check.same("a BLOCK that becomes FLOOR", room.block(0, 7, false), true);
        Check.same("FLOOR again", room.block(0, 7, true), false);
    }

    private static void blockRefused() {
        for (int out : OUT) {
            Behind.index("block(" + out + ", 0, true)", b -> b.block(out, 0, true), Make::some);
            Behind.index("block(0, " + out + ", true)", b -> b.block(0, out, true), Make::some);
            Behind.index("block(" + out + ", 7, false)", b -> b.block(out, 7, false), Make::some);
            Behind.index("block(7, " + out + ", false)", b -> b.block(7, out, false), Make::full);
            Behind.index("block(" + out + ", itself)", b -> b.block(out, out, true));
        }
    }

    /** If 8 were 0 of the next y, or -1 were 7 of the one before, these CELLS would change. */
    private static void blockRefusedChangesNothing() {
        Billiardry room = new Billiardry();
        Check.index("block(8, 0, true)", () -> room.block(8, 0, true));
        Check.index("block(-1, 1, true)", () -> room.block(-1, 1, true));
        Check.index("block(0, 8, true)", () -> room.block(0, 8, true));
        Check.index("block(7, -1, true)", () -> room.block(7, -1, true));
        for (int cell = 0; cell < 64; cell++) {
            Check.same("FLOOR of CELL " + cell, room.block(cell % 8, cell / 8, true), false);
        }
        Check.index("block(8, 0, false)", () -> room.block(8, 0, false));
        Check.index("block(-1, 1, false)", () -> room.block(-1, 1, false));
        for (int cell = 0; cell < 64; cell++) {
            Check.same("BLOCK in CELL " + cell, room.block(cell % 8, cell / 8, true), true);
        }
    }

    // ---- promises 3 to 8: what is asked of a SHOT

    private static void tellShots(Edges edges) {
        for (int k = 0; k < SHOTS.length; k++) {
            int promise = 3 + k;
            ShotCall shot = SHOTS[k];
            String index = promise == 3 ? "if there is no such CELL" : "as period() does";
            String argument = promise == 3 ? "if side is out of range" : "as period() does";
            String standing = promise == 3 ? "if the CELL is a BLOCK" : "as period() does";
            edges.of(promise, "Throws `IndexOutOfBoundsException` " + index, () -> refusesNoCell(shot));
            edges.of(promise, "Throws `IllegalArgumentException` " + argument, () -> refusesNoSide(shot));
            edges.of(promise, "Throws `IllegalStateException` " + standing, () -> refusesBlock(shot));
            edges.of(promise, "If several apply, the one that is named first in the throws clause is thrown.",
                () -> refusesInOrder(shot));
            edges.of(promise, "questions change nothing",
                () -> Behind.question("a SHOT", b -> shot.ask(b, 7, 0, SOUTH, true)));
        }
        edges.of(3, "- `x`: of its CELL", RoomEdgesTest::shotX);
        edges.of(3, "- `y`: of its CELL", RoomEdgesTest::shotY);
        edges.of(3, "- `side`: WEST to NORTH", RoomEdgesTest::shotSide);
        edges.of(3, FOR_WHICH_SIDE_IT_IS_UP, RoomEdgesTest::shotIsUp);
    }

    private static void refusesNoCell(ShotCall shot) {
        for (int out : OUT) {
            Behind.index("x " + out, b -> shot.ask(b, out, 0, WEST, true), Make::bare);
            Behind.index("y " + out, b -> shot.ask(b, 0, out, WEST, true), Make::bare);
            Behind.index("x and y " + out, b -> shot.ask(b, out, out, NORTH, false), Make::full);
            Check.index("x " + out + " in a ROOM of BLOCKS", () -> shot.ask(Make.floor(), out, 7, EAST, true));
            Check.index("y " + out + " in a ROOM of BLOCKS", () -> shot.ask(Make.floor(), 7, out, EAST, true));
        }
    }

    private static void refusesNoSide(ShotCall shot) {
        for (int side : NO_SIDE) {
            Behind.argument("side " + side, b -> shot.ask(b, 7, 0, side, true));
            Check.argument("side " + side + ", down", () -> shot.ask(Make.bare(), 0, 0, side, false));
        }
    }

    private static void refusesBlock(ShotCall shot) {
        for (int side = WEST; side <= NORTH; side++) {
            int at = side;
            Behind.standing("side " + side, b -> shot.ask(b, 4, 0, at, true), Make::full);
            Behind.standing("side " + side + ", down", b -> shot.ask(b, 0, 7, at, false), Make::some);
        }
        for (int cell = 0; cell < 64; cell++) {
            int x = cell % 8;
            int y = cell / 8;
            Check.standing("CELL " + cell, () -> shot.ask(Make.blocks(x, y), x, y, NORTH, true));
        }
    }

    private static void refusesInOrder(ShotCall shot) {
        Behind.index("no CELL, no SIDE", b -> shot.ask(b, 8, 0, 4, true));
        Behind.index("no CELL, no SIDE, below", b -> shot.ask(b, 0, -1, -1, true));
        Behind.index("no CELL and no SIDE, all BLOCKS", b -> shot.ask(b, -1, 0, 4, true), Make::floor);
        Behind.argument("no SIDE in a BLOCK", b -> shot.ask(b, 4, 0, 4, true), Make::full);
        Behind.argument("no SIDE in a BLOCK, below", b -> shot.ask(b, 0, 7, -1, true), Make::some);
    }

    private static void shotX() {
        Billiardry room = Make.floor(0, 2, 7, 2, 6, 2);
        Check.same("x 0", room.period(0, 2, WEST, true), 4);
        Check.same("x 6", room.period(6, 2, WEST, true), 8);
        Check.same("x 7", room.period(7, 2, WEST, true), 8);
        Check.index("x -1", () -> room.period(-1, 2, WEST, true));
        Check.index("x 8", () -> room.period(8, 2, WEST, true));
        Check.standing("x and y exchanged", () -> room.period(2, 0, WEST, true));
    }

    private static void shotY() {
        Billiardry room = Make.floor(5, 0, 5, 7, 5, 6);
        Check.same("y 0", room.period(5, 0, WEST, true), 4);
        Check.same("y 6", room.period(5, 6, WEST, true), 8);
        Check.same("y 7", room.period(5, 7, WEST, true), 8);
        Check.index("y -1", () -> room.period(5, -1, WEST, true));
        Check.index("y 8", () -> room.period(5, 8, WEST, true));
        Check.standing("x and y exchanged", () -> room.period(0, 5, WEST, true));
    }

    /** The BLOCK turns the long way by: from EAST and NORTH up is the long one, from the others down. */
    private static void shotSide() {
        Billiardry room = Make.blocks(0, 6);
        int[] due = {32, 32, 92, 92};
        for (int side = WEST; side <= NORTH; side++) {
            Check.same("side " + side, room.period(4, 1, side, true), due[side]);
        }
        Check.argument("side -1", () -> room.period(4, 1, -1, true));
        Check.argument("side 4", () -> room.period(4, 1, 4, true));
        Check.same("WEST", Billiardry.WEST, 0);
        Check.same("SOUTH", Billiardry.SOUTH, 1);
        Check.same("EAST", Billiardry.EAST, 2);
        Check.same("NORTH", Billiardry.NORTH, 3);
    }

    private static void shotIsUp() {
        Billiardry room = Make.blocks(0, 6);
        int[] up = {32, 32, 92, 92};
        for (int side = WEST; side <= NORTH; side++) {
            Check.same("up at side " + side, room.period(4, 1, side, true), up[side]);
            Check.same("down at side " + side, room.period(4, 1, side, false), 124 - up[side]);
        }
        int[] goals = {NORTH, SOUTH, EAST, WEST};
        Billiardry one = Make.floor(3, 3);
        for (int side = WEST; side <= NORTH; side++) {
            int across = side % 2 == 0 ? 0 : 2;
            Check.same("goal from side " + side + " up", one.bounce(3, 3, side, true, 0), goals[across]);
            Check.same("goal from side " + side + " down", one.bounce(3, 3, side, false, 0), goals[across + 1]);
        }
    }

    // ---- promises 3 and 4: the PERIOD

    private static void tellPeriod(Edges edges) {
        edges.of(3, "Returns the PERIOD of a SHOT.", RoomEdgesTest::periodsOfRooms);
        edges.of(3, "Returns how many STEPS.", RoomEdgesTest::leastAndMostSteps);
        edges.of(3, "The PERIOD of a SHOT is how many STEPS there are, 1 at least, until it is in its STATE again"
            + " for the first time.", RoomEdgesTest::againForTheFirstTime);
        edges.of(4, "Returns the same, found by going back", RoomEdgesTest::sameGoingBack);
    }

    private static final int[][] ROOMS = {
        {}, {0, 0}, {7, 7}, {0, 6}, {5, 3, 2, 7}, {7, 0, 4, 1, 1, 2}, {1, 3, 2, 3, 1, 5, 3, 6},
        {2, 1, 3, 4, 5, 6, 0, 7}, {0, 0, 0, 7, 7, 0, 7, 7, 3, 3, 3, 4, 4, 3, 4, 4},
        {0, 1, 1, 0, 7, 6, 6, 7, 0, 3, 1, 3, 2, 3, 3, 3, 4, 3, 5, 3, 6, 3, 7, 3},
    };

    private interface Agreed {
        void of(Billiardry asked, Oracle due, int state);
    }

    /** Asks of each STATE in each of the ROOMS, with a new object for each 64 STATES. */
    private static void inEachRoom(Agreed agreed) {
        for (int[] cells : ROOMS) {
            Oracle due = new Oracle();
            for (int k = 0; k < cells.length; k += 2) {
                due.block(cells[k], cells[k + 1], true);
            }
            Billiardry asked = Make.blocks(cells);
            for (int state = 0; state < 512; state++) {
                asked = state % 64 == 0 ? Make.blocks(cells) : asked;
                if (due.sees(state % 8, state / 8 % 8, state % 8, state / 8 % 8)) {
                    agreed.of(asked, due, state);
                }
            }
        }
    }

    private static int ask(ShotCall shot, Billiardry asked, int state) {
        return shot.ask(asked, state % 8, state / 8 % 8, state / 64 % 4, state >= UP);
    }

    private static void periodsOfRooms() {
        inEachRoom((asked, due, k) -> Check.same("period of STATE " + k,
            ask(Billiardry::period, asked, k), due.period(k % 8, k / 8 % 8, k / 64 % 4, k >= UP)));
    }

    private static void leastAndMostSteps() {
        for (int state = 0; state < 512; state++) {
            Billiardry one = Make.floor(state % 8, state / 8 % 8);
            Check.same("one CELL, STATE " + state, ask(Billiardry::period, one, state), 4);
        }
        Billiardry longest = Make.blocks(7, 0, 4, 1, 1, 2);
        Check.same("all STATES on two PATHS", longest.period(0, 0, WEST, true), 244);
        Check.same("all STATES on two PATHS, down", longest.period(0, 0, WEST, false), 244);
    }

    private static void againForTheFirstTime() {
        int[][] shots = {{0, 0, WEST}, {3, 7, NORTH}, {6, 1, SOUTH}};
        for (int[] shot : shots) {
            Billiardry room = Make.blocks(7, 0, 4, 1, 1, 2);
            int start = room.state(shot[0], shot[1], shot[2], true, 0);
            int period = room.period(shot[0], shot[1], shot[2], true);
            for (int steps = 1; steps < period; steps++) {
                boolean isAgain = room.state(shot[0], shot[1], shot[2], true, steps) == start;
                Check.same("again at " + steps, isAgain, false);
            }
            Check.same("again", room.state(shot[0], shot[1], shot[2], true, period), start);
            Check.same("again behind two", room.state(shot[0], shot[1], shot[2], true, 2 * period), start);
        }
    }

    private static void sameGoingBack() {
        inEachRoom((asked, due, k) -> {
            int period = due.period(k % 8, k / 8 % 8, k / 64 % 4, k >= UP);
            Check.same("periodAnew of STATE " + k, ask(Billiardry::periodAnew, asked, k), period);
        });
        for (int state = 0; state < 512; state++) {
            Billiardry one = Make.floor(state % 8, state / 8 % 8);
            Check.same("one CELL, STATE " + state, ask(Billiardry::periodAnew, one, state), 4);
        }
        Check.same("the longest", Make.blocks(7, 0, 4, 1, 1, 2).periodAnew(0, 0, WEST, true), 244);
    }

    // ---- promise 8: STEPS and STATES

    private static void tellSteps(Edges edges) {
        edges.of(8, "whatever lies beyond them is BLOCK, too", RoomEdgesTest::beyondIsBlock);
        edges.of(8, "A CELL has four SIDES: WEST 0, towards the CELL with x less by 1, SOUTH 1, y less by 1, EAST 2,"
            + " x more by 1, NORTH 3, y more by 1; that CELL is behind the SIDE.", RoomEdgesTest::behindEachSide);
        edges.of(8, "A SHOT is in a FLOOR CELL", RoomEdgesTest::onFloorAlone);
        edges.of(8, "Across the SIDE at which it is, it is HEADED into its CELL: at WEST up along x, at EAST down"
            + " along x, at SOUTH up along y, at NORTH down along y.", RoomEdgesTest::headedInto);
        edges.of(8, "A STEP: from WEST or EAST it goes to NORTH of the same CELL, if it is HEADED up along y,"
            + " otherwise to SOUTH; from SOUTH or NORTH it goes to EAST, if it is HEADED up along x, otherwise to"
            + " WEST.", RoomEdgesTest::goals);
        edges.of(8, "If the CELL behind that SIDE is FLOOR, it is in that CELL then, at the SIDE opposite to that,"
            + " HEADED as it was.", RoomEdgesTest::goesOn);
        edges.of(8, "Otherwise it BOUNCES: it is at that SIDE of its CELL, HEADED the other way across it, as it was"
            + " along it.", RoomEdgesTest::bouncesBack);
        edges.of(8, "Returns the STATE of a SHOT behind some STEPS.", RoomEdgesTest::behindSteps);
        edges.of(8, "- `steps`: 0 to 2147483647", RoomEdgesTest::leastAndMostStepsOn);
        edges.of(8, "Returns its x, 8 times its y, 64 times its SIDE, and 256 more if it is HEADED up along its SIDE,"
            + " all together.", RoomEdgesTest::toldTogether);
        edges.of(8, "or if steps is out of range", RoomEdgesTest::stepsRefused);
        edges.of(8, "If several apply, the one that is named first in the throws clause is thrown.",
            RoomEdgesTest::stepsRefusedInOrder);
        edges.of(8, "questions change nothing", () -> Behind.question("state", b -> b.state(7, 0, SOUTH, true, MOST)));
    }

    private static int told(int x, int y, int side, boolean isUp) {
        return x + 8 * y + 64 * side + (isUp ? UP : 0);
    }

    private static void beyondIsBlock() {
        for (int k = 0; k < 8; k++) {
            Billiardry room = new Billiardry();
            Check.same("WEST rim", room.state(0, k, SOUTH, false, 1), told(0, k, WEST, true));
            Check.same("WEST rim, down", room.state(0, k, NORTH, false, 1), told(0, k, WEST, false));
            Check.same("EAST rim", room.state(7, k, SOUTH, true, 1), told(7, k, EAST, true));
            Check.same("EAST rim, down", room.state(7, k, NORTH, true, 1), told(7, k, EAST, false));
            Check.same("SOUTH rim", room.state(k, 0, WEST, false, 1), told(k, 0, SOUTH, true));
            Check.same("SOUTH rim, down", room.state(k, 0, EAST, false, 1), told(k, 0, SOUTH, false));
            Check.same("NORTH rim", room.state(k, 7, WEST, true, 1), told(k, 7, NORTH, true));
            Check.same("NORTH rim, down", room.state(k, 7, EAST, true, 1), told(k, 7, NORTH, false));
        }
    }

    private static void behindEachSide() {
        int[] addX = {-1, 0, 1, 0};
        int[] addY = {0, -1, 0, 1};
        for (int side = WEST; side <= NORTH; side++) {
            Billiardry open = Make.floor(4, 3, 4 + addX[side], 3 + addY[side]);
            for (int from = WEST; from <= NORTH; from++) {
                boolean isUp = side >= EAST;
                if (from % 2 != side % 2) {
                    int goal = open.state(4, 3, from, isUp, 1);
                    Check.same("x behind side " + side, goal % 8, 4 + addX[side]);
                    Check.same("y behind side " + side, goal / 8 % 8, 3 + addY[side]);
                    Check.same("away from side " + side, open.state(4, 3, from, !isUp, 1) % 64, 28);
                }
            }
        }
    }

    private static void onFloorAlone() {
        for (int steps = 0; steps <= 244; steps++) {
            int cell = Make.blocks(7, 0, 4, 1, 1, 2).state(0, 0, WEST, true, steps) % 64;
            Check.same("in a BLOCK at " + steps, cell == 7 || cell == 12 || cell == 17, false);
        }
    }

    /** In one CELL alone the heading across a SIDE is how the SHOT is headed along the next one. */
    private static void headedInto() {
        Billiardry one = Make.floor(2, 6);
        Check.same("from WEST", one.state(2, 6, WEST, true, 1), told(2, 6, NORTH, true));
        Check.same("from WEST, down", one.state(2, 6, WEST, false, 1), told(2, 6, SOUTH, true));
        Check.same("from EAST", one.state(2, 6, EAST, true, 1), told(2, 6, NORTH, false));
        Check.same("from EAST, down", one.state(2, 6, EAST, false, 1), told(2, 6, SOUTH, false));
        Check.same("from SOUTH", one.state(2, 6, SOUTH, true, 1), told(2, 6, EAST, true));
        Check.same("from SOUTH, down", one.state(2, 6, SOUTH, false, 1), told(2, 6, WEST, true));
        Check.same("from NORTH", one.state(2, 6, NORTH, true, 1), told(2, 6, EAST, false));
        Check.same("from NORTH, down", one.state(2, 6, NORTH, false, 1), told(2, 6, WEST, false));
    }

    private static void goals() {
        Billiardry room = new Billiardry();
        Check.same("from WEST up: the CELL to the NORTH", room.state(3, 3, WEST, true, 1) % 64, 3 + 8 * 4);
        Check.same("from WEST down: to the SOUTH", room.state(3, 3, WEST, false, 1) % 64, 3 + 8 * 2);
        Check.same("from EAST up: to the NORTH", room.state(3, 3, EAST, true, 1) % 64, 3 + 8 * 4);
        Check.same("from EAST down: to the SOUTH", room.state(3, 3, EAST, false, 1) % 64, 3 + 8 * 2);
        Check.same("from SOUTH up: to the EAST", room.state(3, 3, SOUTH, true, 1) % 64, 4 + 8 * 3);
        Check.same("from SOUTH down: to the WEST", room.state(3, 3, SOUTH, false, 1) % 64, 2 + 8 * 3);
        Check.same("from NORTH up: to the EAST", room.state(3, 3, NORTH, true, 1) % 64, 4 + 8 * 3);
        Check.same("from NORTH down: to the WEST", room.state(3, 3, NORTH, false, 1) % 64, 2 + 8 * 3);
    }

    private static void goesOn() {
        Billiardry room = new Billiardry();
        Check.same("from WEST up", room.state(3, 3, WEST, true, 1), told(3, 4, SOUTH, true));
        Check.same("from WEST down", room.state(3, 3, WEST, false, 1), told(3, 2, NORTH, true));
        Check.same("from EAST up", room.state(3, 3, EAST, true, 1), told(3, 4, SOUTH, false));
        Check.same("from EAST down", room.state(3, 3, EAST, false, 1), told(3, 2, NORTH, false));
        Check.same("from SOUTH up", room.state(3, 3, SOUTH, true, 1), told(4, 3, WEST, true));
        Check.same("from SOUTH down", room.state(3, 3, SOUTH, false, 1), told(2, 3, EAST, true));
        Check.same("from NORTH up", room.state(3, 3, NORTH, true, 1), told(4, 3, WEST, false));
        Check.same("from NORTH down", room.state(3, 3, NORTH, false, 1), told(2, 3, EAST, false));
    }

    /** BLOCKS all around but at the corners, which no SHOT comes to. */
    private static void bouncesBack() {
        Billiardry room = Make.blocks(2, 3, 4, 3, 3, 2, 3, 4);
        Check.same("from WEST up", room.state(3, 3, WEST, true, 1), told(3, 3, NORTH, true));
        Check.same("from WEST down", room.state(3, 3, WEST, false, 1), told(3, 3, SOUTH, true));
        Check.same("from EAST up", room.state(3, 3, EAST, true, 1), told(3, 3, NORTH, false));
        Check.same("from EAST down", room.state(3, 3, EAST, false, 1), told(3, 3, SOUTH, false));
        Check.same("from SOUTH up", room.state(3, 3, SOUTH, true, 1), told(3, 3, EAST, true));
        Check.same("from SOUTH down", room.state(3, 3, SOUTH, false, 1), told(3, 3, WEST, true));
        Check.same("from NORTH up", room.state(3, 3, NORTH, true, 1), told(3, 3, EAST, false));
        Check.same("from NORTH down", room.state(3, 3, NORTH, false, 1), told(3, 3, WEST, false));
        Billiardry corners = Make.blocks(2, 2, 2, 4, 4, 2, 4, 4);
        Check.same("corners alone", corners.state(3, 3, WEST, true, 1), told(3, 4, SOUTH, true));
    }

    private static void behindSteps() {
        inEachRoom((asked, due, k) -> {
            for (int steps : new int[] {1, 2, 3, 100, 1000003}) {
                Check.same("STATE " + k + " behind " + steps,
                    asked.state(k % 8, k / 8 % 8, k / 64 % 4, k >= UP, steps),
                    due.state(k % 8, k / 8 % 8, k / 64 % 4, k >= UP, steps));
            }
        });
    }

    private static void leastAndMostStepsOn() {
        inEachRoom((asked, due, k) -> {
            Check.same("no STEPS", asked.state(k % 8, k / 8 % 8, k / 64 % 4, k >= UP, 0), k);
            for (int steps = MOST; steps >= MOST - 1; steps--) {
                Check.same("STATE " + k + " behind " + steps,
                    asked.state(k % 8, k / 8 % 8, k / 64 % 4, k >= UP, steps),
                    due.state(k % 8, k / 8 % 8, k / 64 % 4, k >= UP, steps));
            }
        });
        Behind.argument("steps -1", b -> b.state(7, 0, WEST, true, -1));
        Behind.argument("least steps", b -> b.state(7, 0, WEST, true, LEAST));
    }

    private static void toldTogether() {
        Check.same("the least", new Billiardry().state(0, 0, WEST, false, 0), 0);
        Check.same("the most", new Billiardry().state(7, 7, NORTH, true, 0), 511);
        Billiardry room = new Billiardry();
        for (int state = 0; state < 512; state++) {
            Check.same("STATE " + state, room.state(state % 8, state / 8 % 8, state / 64 % 4, state >= UP, 0), state);
        }
    }

    private static void stepsRefused() {
        for (int steps : new int[] {-1, -2, -32, -65536, LEAST + 1, LEAST}) {
            Behind.argument("steps " + steps, b -> b.state(7, 0, EAST, false, steps));
        }
    }

    private static void stepsRefusedInOrder() {
        Behind.index("no CELL, no steps", b -> b.state(0, 8, WEST, true, -1));
        Behind.index("no CELL, no SIDE, no steps", b -> b.state(-1, 0, -1, true, LEAST));
        Behind.argument("no SIDE, no steps", b -> b.state(7, 0, 4, true, -1));
        Behind.argument("no steps in a BLOCK", b -> b.state(4, 0, WEST, true, -1), Make::full);
        Behind.argument("no steps in a ROOM of BLOCKS", b -> b.state(0, 0, NORTH, true, LEAST), Make::floor);
        Behind.standing("most steps in a BLOCK", b -> b.state(4, 0, WEST, true, MOST), Make::full);
    }

    // ---- promises 5 to 7: bounces, and what is touched

    private static void tellBounces(Edges edges) {
        edges.of(5, "Returns how often a SHOT BOUNCES in its PERIOD.", RoomEdgesTest::howOften);
        edges.of(6, "Returns how many unlike CELLS a SHOT is in, in its PERIOD", RoomEdgesTest::howManyCells);
        edges.of(6, "the one that is told with them", RoomEdgesTest::theOneToldWithThem);
        edges.of(7, "Returns the SIDE at which a SHOT BOUNCES for the time n and 1.", RoomEdgesTest::sidesOfBounces);
        edges.of(7, "- `n`: 0 to 100000", RoomEdgesTest::leastAndMostN);
        edges.of(7, "0 for the first STEP that BOUNCES from the STATE on that is told, which is none itself",
            RoomEdgesTest::firstBounce);
        edges.of(7, "Returns WEST to NORTH; each SHOT BOUNCES again and again.", RoomEdgesTest::againAndAgain);
        edges.of(7, "or if n is out of range", RoomEdgesTest::nRefused);
        edges.of(7, "If several apply, the one that is named first in the throws clause is thrown.",
            RoomEdgesTest::nRefusedInOrder);
        edges.of(7, "questions change nothing",
            () -> Behind.question("bounce", b -> b.bounce(7, 0, EAST, true, 100000)));
    }

    private static void howOften() {
        for (int state = 0; state < 512; state++) {
            Billiardry one = Make.floor(state % 8, state / 8 % 8);
            Check.same("each STEP in one CELL, STATE " + state, ask(Billiardry::bounces, one, state), 4);
        }
        Check.same("the fewest for a PERIOD of 32", new Billiardry().bounces(3, 4, EAST, false), 4);
        Check.same("in the longest PERIOD", Make.blocks(7, 0, 4, 1, 1, 2).bounces(0, 0, WEST, true), 40);
        inEachRoom((asked, due, k) -> Check.same("STATE " + k, ask(Billiardry::bounces, asked, k),
            due.bounces(k % 8, k / 8 % 8, k / 64 % 4, k >= UP)));
    }

    private static void howManyCells() {
        Check.same("in the longest PERIOD all 61", Make.blocks(7, 0, 4, 1, 1, 2).touched(0, 0, WEST, true), 61);
        inEachRoom((asked, due, k) -> Check.same("STATE " + k, ask(Billiardry::touched, asked, k),
            due.touched(k % 8, k / 8 % 8, k / 64 % 4, k >= UP)));
    }

    private static void theOneToldWithThem() {
        for (int state = 0; state < 512; state++) {
            Billiardry one = Make.floor(state % 8, state / 8 % 8);
            Check.same("one CELL, STATE " + state, ask(Billiardry::touched, one, state), 1);
        }
        Billiardry two = Make.floor(3, 0, 3, 1);
        Check.same("two CELLS, from the one", two.touched(3, 0, NORTH, true), 2);
        Check.same("two CELLS, from the other", two.touched(3, 1, EAST, false), 2);
    }

    private static void sidesOfBounces() {
        inEachRoom((asked, due, k) -> {
            for (int n = 0; n < 5; n++) {
                Check.same("STATE " + k + ", n " + n,
                    asked.bounce(k % 8, k / 8 % 8, k / 64 % 4, k >= UP, n),
                    due.bounce(k % 8, k / 8 % 8, k / 64 % 4, k >= UP, n));
            }
        });
    }

    /** In one CELL each STEP bounces, so that n is the STEPS less one; in two each sixth is the same. */
    private static void leastAndMostN() {
        Billiardry one = Make.floor(0, 0);
        int[] sides = {NORTH, EAST, SOUTH, WEST};
        Check.same("n 0", one.bounce(0, 0, WEST, true, 0), NORTH);
        for (int n = 99990; n <= 100000; n++) {
            Check.same("n " + n, one.bounce(0, 0, WEST, true, n), sides[n % 4]);
        }
        Billiardry two = Make.floor(0, 0, 1, 0);
        int[] sidesOfTwo = {NORTH, SOUTH, EAST, NORTH, SOUTH, WEST};
        for (int n = 99990; n <= 100000; n++) {
            Check.same("two CELLS, n " + n, two.bounce(0, 0, WEST, true, n), sidesOfTwo[n % 6]);
        }
        int far = Make.blocks(7, 0, 4, 1, 1, 2).bounce(0, 0, WEST, true, 100000 % 40);
        Check.same("the longest", Make.blocks(7, 0, 4, 1, 1, 2).bounce(0, 0, WEST, true, 100000), far);
        Behind.argument("n -1", b -> b.bounce(7, 0, WEST, true, -1));
        Behind.argument("n 100001", b -> b.bounce(7, 0, WEST, true, 100001));
    }

    /** The STATE that is told is itself one behind a BOUNCE, or inside; the BOUNCE that led to it is none. */
    private static void firstBounce() {
        Billiardry room = new Billiardry();
        Check.same("from the WEST rim", room.bounce(0, 0, WEST, true, 0), NORTH);
        Check.same("from the WEST rim, the next one", room.bounce(0, 0, WEST, true, 1), EAST);
        Check.same("from the SOUTH rim", room.bounce(3, 0, SOUTH, true, 0), EAST);
        Check.same("a STEP before the rim", room.bounce(0, 7, WEST, true, 0), NORTH);
        Check.same("a STEP before the rim, the next one", room.bounce(0, 7, WEST, true, 1), EAST);
        Check.same("behind that STEP", room.bounce(0, 7, NORTH, true, 0), EAST);
        Check.same("the last one leads to the STATE itself", room.bounce(0, 0, WEST, true, 3), WEST);
        Check.same("and the first one comes again", room.bounce(0, 0, WEST, true, 4), NORTH);
        Check.same("from inside, against a BLOCK", Make.blocks(5, 4).bounce(4, 4, SOUTH, true, 0), EAST);
        Check.same("from inside, away from the BLOCK", Make.blocks(5, 4).bounce(4, 4, SOUTH, false, 0), NORTH);
    }

    private static void againAndAgain() {
        inEachRoom((asked, due, k) -> {
            int side = asked.bounce(k % 8, k / 8 % 8, k / 64 % 4, k >= UP, 77777);
            Check.same("STATE " + k + ": a SIDE", side >= WEST && side <= NORTH, true);
            int bounces = ask(Billiardry::bounces, asked, k);
            Check.same("STATE " + k + ": again and again", side,
                asked.bounce(k % 8, k / 8 % 8, k / 64 % 4, k >= UP, 77777 % bounces));
        });
    }

    private static void nRefused() {
        for (int n : new int[] {-1, 100001, -100000, 100002, 200000, -65536, MOST, LEAST}) {
            Behind.argument("n " + n, b -> b.bounce(7, 0, NORTH, false, n));
        }
    }

    private static void nRefusedInOrder() {
        Behind.index("no CELL, n -1", b -> b.bounce(8, 0, WEST, true, -1));
        Behind.index("no CELL, no SIDE, n 100001", b -> b.bounce(0, -1, 4, true, 100001));
        Behind.argument("no SIDE, n -1", b -> b.bounce(7, 0, -1, true, -1));
        Behind.argument("n -1 in a BLOCK", b -> b.bounce(4, 0, WEST, true, -1), Make::full);
        Behind.argument("n 100001 in a BLOCK", b -> b.bounce(4, 0, WEST, true, 100001), Make::full);
        Behind.standing("n 100000 in a BLOCK", b -> b.bounce(4, 0, WEST, true, 100000), Make::full);
    }

    // ---- promises 9 and 10: the PATHS

    private static void tellPaths(Edges edges) {
        edges.of(9, "Returns how many PATHS there are.", RoomEdgesTest::fewestAndMostPaths);
        edges.of(9, "A PATH is all STATES that a SHOT comes to; each STATE that there can be is on one PATH.",
            RoomEdgesTest::eachStateOnOnePath);
        edges.of(9, "questions change nothing", () -> Behind.question("paths", Billiardry::paths));
        edges.of(10, "Returns how many STATES there can be, by how many PATHS there are, divided as floats",
            RoomEdgesTest::meanAsFloats);
        edges.of(10, "0.0f without PATHS", RoomEdgesTest::meanWithoutPaths);
        edges.of(10, "questions change nothing", () -> Behind.question("mean", Billiardry::mean));
    }

    private static Billiardry chess() {
        Billiardry room = new Billiardry();
        for (int cell = 0; cell < 64; cell++) {
            room.block(cell % 8, cell / 8, (cell + cell / 8) % 2 == 1);
        }
        return room;
    }

    private static void fewestAndMostPaths() {
        Check.same("no FLOOR", Make.floor().paths(), 0);
        for (int cell = 0; cell < 64; cell++) {
            Check.same("one CELL, " + cell, Make.floor(cell % 8, cell / 8).paths(), 2);
        }
        Check.same("all FLOOR", new Billiardry().paths(), 16);
        Check.same("61 CELLS on two PATHS", Make.blocks(7, 0, 4, 1, 1, 2).paths(), 2);
        Check.same("32 CELLS with BLOCKS between", chess().paths(), 64);
    }

    private static void eachStateOnOnePath() {
        for (int[] cells : ROOMS) {
            int[] states = new int[513];
            Billiardry room = Make.blocks(cells);
            for (int k = 0; k < 512; k++) {
                room = k % 64 == 0 ? Make.blocks(cells) : room;
                if (room.sees(k % 8, k / 8 % 8, k % 8, k / 8 % 8)) {
                    states[ask(Billiardry::period, room, k)]++;
                }
            }
            int paths = 0;
            for (int period = 1; period <= 512; period++) {
                Check.same("PATHS of " + period + " STATES have as many each", states[period] % period, 0);
                paths += states[period] / period;
            }
            Check.same("paths", Make.blocks(cells).paths(), paths);
        }
    }

    private static void meanAsFloats() {
        Check.sameFloat("one CELL", Make.floor(7, 0).mean(), 4.0f);
        Check.sameFloat("32 CELLS with BLOCKS between", chess().mean(), 4.0f);
        Check.sameFloat("all FLOOR", new Billiardry().mean(), 32.0f);
        Check.sameFloat("two PATHS", Make.blocks(7, 0, 4, 1, 1, 2).mean(), 244.0f);
        Check.sameFloat("no whole number", Make.blocks(3, 3, 4, 3).mean(), 496.0f / 14.0f);
        Check.sameFloat("no whole number, three CELLS", Make.floor(0, 0, 2, 2, 7, 7, 6, 7).mean(), 32.0f / 6.0f);
    }

    private static void meanWithoutPaths() {
        Billiardry room = Make.floor();
        Check.sameFloat("no FLOOR", room.mean(), 0.0f);
        room.block(7, 7, false);
        Check.sameFloat("one CELL of FLOOR", room.mean(), 4.0f);
        room.block(7, 7, true);
        Check.sameFloat("no FLOOR again", room.mean(), 0.0f);
    }

    public static void main(String[] args) {
        Edges edges = new Edges();
        tell(edges);
        edges.run("RoomEdgesTest");
    }
}
