/**
 * A ROOM of CELLS in which SHOTS bounce, lamps that light it, a SURFACE of SQUARES that are glued,
 * and an EXCHANGE of INTERVALS. The words in capitals are those of the document.
 */
public final class Billiardry {
    public static final int WEST = 0, SOUTH = 1, EAST = 2, NORTH = 3;

    private static final int WIDTH = 8;
    private static final int CELLS = 64;
    private static final int MOST_BOUNCE = 100000;
    private static final int MOST_STEPS = 2147483647;
    private static final int MOST_LAMPS = 6;
    private static final int MOST_SQUARES = 5;
    private static final int MOST_INTERVALS = 6;
    private static final int MOST_LENGTH = 50;

    private final Room room = new Room();
    private final Lamps lamps = new Lamps();
    private final Surface glued = new Surface();
    private final Kin kinOfIt = new Kin();
    private final Exchange exchange = new Exchange();

    public Billiardry() {
    }

    // ---- the ROOM

    public boolean block(int x, int y, boolean is) throws IndexOutOfBoundsException {
        checkCell(x, y);
        boolean was = room.isBlock(x, y);
        room.lay(x, y, is);
        return was;
    }

    public int period(int x, int y, int side, boolean isUp)
            throws IndexOutOfBoundsException, IllegalArgumentException, IllegalStateException {
        checkShot(x, y, side, 0, 0);
        return room.stepsRound(Room.stateOf(x, y, side, isUp));
    }

    public int periodAnew(int x, int y, int side, boolean isUp)
            throws IndexOutOfBoundsException, IllegalArgumentException, IllegalStateException {
        checkShot(x, y, side, 0, 0);
        return room.stepsRoundBackwards(Room.stateOf(x, y, side, isUp));
    }

    public int bounces(int x, int y, int side, boolean isUp)
            throws IndexOutOfBoundsException, IllegalArgumentException, IllegalStateException {
        checkShot(x, y, side, 0, 0);
        return room.bouncesRound(Room.stateOf(x, y, side, isUp));
    }

    public int touched(int x, int y, int side, boolean isUp)
            throws IndexOutOfBoundsException, IllegalArgumentException, IllegalStateException {
        checkShot(x, y, side, 0, 0);
        return room.cellsRound(Room.stateOf(x, y, side, isUp));
    }

    public int bounce(int x, int y, int side, boolean isUp, int n)
            throws IndexOutOfBoundsException, IllegalArgumentException, IllegalStateException {
        checkShot(x, y, side, n, MOST_BOUNCE);
        return room.sideOfBounce(Room.stateOf(x, y, side, isUp), n);
    }

    public int state(int x, int y, int side, boolean isUp, int steps)
            throws IndexOutOfBoundsException, IllegalArgumentException, IllegalStateException {
        checkShot(x, y, side, steps, MOST_STEPS);
        return room.stateBehind(Room.stateOf(x, y, side, isUp), steps);
    }

    public int paths() {
        return room.pathsInAll();
    }

    public float mean() {
        int all = room.pathsInAll();
        return all > 0 ? (float) room.statesInAll() / (float) all : 0.0f;
    }

    // ---- lamps

    public int lamp(int x, int y) throws IndexOutOfBoundsException, IllegalStateException {
        checkCell(x, y);
        if (lamps.areFull()) {
            throw new IllegalStateException("there are 6 lamps");
        }
        return lamps.add(x, y);
    }

    public boolean sees(int x, int y, int otherX, int otherY) throws IndexOutOfBoundsException {
        checkCell(x, y);
        checkCell(otherX, otherY);
        return Lamps.isFreeBetween(room, x, y, otherX, otherY);
    }

    public boolean seesAnew(int x, int y, int otherX, int otherY) throws IndexOutOfBoundsException {
        checkCell(x, y);
        checkCell(otherX, otherY);
        return Lamps.isFreeAlong(room, x, y, otherX, otherY);
    }

    public int lit() {
        return lamps.cellsLit(room);
    }

    public float share() {
        int all = room.floors();
        return all > 0 ? (float) lamps.cellsLit(room) / (float) all : 0.0f;
    }

    // ---- the SURFACE

    public int surface(int squares) throws IllegalArgumentException {
        checkRange(squares, 1, MOST_SQUARES);
        int before = glued.squares();
        glued.begin(squares);
        return before;
    }

    public int glue(int square, int other, boolean isUp) throws IndexOutOfBoundsException {
        checkPlace(square, glued.squares());
        checkPlace(other, glued.squares());
        return glued.exchangeTwo(square, other, isUp);
    }

    public int shear() {
        glued.shearAll();
        return glued.leastCode();
    }

    public int turn() {
        glued.turnAll();
        return glued.leastCode();
    }

    public int square(int square, int what) throws IndexOutOfBoundsException, IllegalArgumentException {
        checkPlace(square, glued.squares());
        checkRange(what, 0, 6);
        switch (what) {
            case 0:
                return glued.rightOf(square);
            case 1:
                return glued.upOf(square);
            case 2:
                return glued.leftOf(square);
            case 3:
                return glued.downOf(square);
            case 4:
                return glued.sizeOf(square, Surface.CONES);
            case 5:
                return glued.sizeOf(square, Surface.PIECES);
            default:
                return glued.sizeOf(square, Surface.ROWS);
        }
    }

    public int count(int what) throws IllegalArgumentException {
        checkRange(what, 0, 4);
        return what == 0 ? glued.squares() : glued.groups(what);
    }

    public int genus() throws IllegalStateException {
        if (glued.groups(Surface.PIECES) > 1) {
            throw new IllegalStateException("there is more than one PIECE");
        }
        return 1 + (glued.squares() - glued.groups(Surface.CONES)) / 2;
    }

    public int code() {
        return glued.leastCode();
    }

    public int kin() {
        return kinOfIt.codesFrom(glued.leastCode(), glued.squares());
    }

    // ---- the EXCHANGE

    public int interval(int length) throws IllegalArgumentException, IllegalStateException {
        checkRange(length, 1, MOST_LENGTH);
        if (exchange.isFull()) {
            throw new IllegalStateException("there are 6 INTERVALS");
        }
        return exchange.add(length);
    }

    public int swap(int place, int other) throws IndexOutOfBoundsException {
        checkPlace(place, exchange.intervals());
        checkPlace(other, exchange.intervals());
        return exchange.swapBelow(place, other);
    }

    public int induce() throws IllegalStateException {
        if (!exchange.canInduce()) {
            throw new IllegalStateException("no INTERVALS, or the last ones are alike");
        }
        exchange.induceOnce();
        return exchange.points();
    }

    public int told(int place, int what) throws IndexOutOfBoundsException, IllegalArgumentException {
        checkPlace(place, exchange.intervals());
        checkRange(what, 0, 2);
        switch (what) {
            case 0:
                return exchange.aboveAt(place);
            case 1:
                return exchange.belowAt(place);
            default:
                return exchange.lengthAt(place);
        }
    }

    public int image(int point) throws IndexOutOfBoundsException {
        checkPlace(point, exchange.points());
        return exchange.imageOf(point);
    }

    public int back(int point) throws IndexOutOfBoundsException {
        checkPlace(point, exchange.points());
        return exchange.originOf(point);
    }

    public int cycle(int point) throws IndexOutOfBoundsException {
        checkPlace(point, exchange.points());
        return exchange.imagesRound(point);
    }

    public int cycles() {
        return exchange.cyclesInAll();
    }

    public int apart() {
        return exchange.leastApart();
    }

    // ---- what the calls ask of their arguments

    private static boolean isCell(int x, int y) {
        return x >= 0 && x < WIDTH && y >= 0 && y < WIDTH;
    }

    private static void checkCell(int x, int y) {
        if (!isCell(x, y)) {
            throw new IndexOutOfBoundsException("there is no such CELL");
        }
    }

    private static void checkPlace(int place, int places) {
        if (place < 0 || place >= places) {
            throw new IndexOutOfBoundsException("there is no such SQUARE, INTERVAL, POINT or place");
        }
    }

    private static void checkRange(int value, int least, int most) {
        if (value < least || value > most) {
            throw new IllegalArgumentException("an argument is out of its range");
        }
    }

    private void checkShot(int x, int y, int side, int n, int mostN) {
        checkCell(x, y);
        checkRange(side, WEST, NORTH);
        checkRange(n, 0, mostN);
        if (room.isBlock(x, y)) {
            throw new IllegalStateException("the CELL is a BLOCK");
        }
    }

    // ---- rows of numbers: each index is looked at here, before it is used

    private static int at(int[] row, int place) {
        return place >= 0 && place < row.length ? row[place] : 0;
    }

    private static void put(int[] row, int place, int value) {
        if (place >= 0 && place < row.length) {
            row[place] = value;
        }
    }

    private static void exchangeIn(int[] row, int place, int other) {
        int kept = at(row, place);
        put(row, place, at(row, other));
        put(row, other, kept);
    }

    /** Where a value stands among the first ones of a row; 0, if it does not. */
    private static int placeOf(int[] row, int many, int value) {
        for (int place = 0; place < many; place++) {
            if (at(row, place) == value) {
                return place;
            }
        }
        return 0;
    }

    /** Marks on the numbers 0 to 511: enough for all STATES, and for all POINTS. */
    private static final class Marks {
        private static final int MOST = 512;
        private final long[] bits = new long[MOST / 64];

        void clear() {
            for (int word = 0; word < bits.length; word++) {
                bits[word] = 0L;
            }
        }

        boolean has(int number) {
            return number >= 0 && number < MOST && (bits[number / 64] >>> (number % 64) & 1L) != 0L;
        }

        void add(int number) {
            if (number >= 0 && number < MOST) {
                bits[number / 64] |= 1L << (number % 64);
            }
        }
    }

    /**
     * The CELLS and the SHOTS in them. A STATE is held as state() tells it: x, 8 times y, 64 times
     * the SIDE, and 256 if it is HEADED up along its SIDE; across it, its SIDE tells the HEADING.
     */
    private static final class Room {
        private static final int STATES = 512;
        private static final int UP = 256;

        private final Marks met = new Marks();
        private long blocks = 0L;

        boolean isBlock(int x, int y) {
            return !isCell(x, y) || (blocks >>> (x + WIDTH * y) & 1L) != 0L;
        }

        void lay(int x, int y, boolean is) {
            long bit = 1L << (x + WIDTH * y);
            blocks = is ? blocks | bit : blocks & ~bit;
        }

        int floors() {
            return CELLS - Long.bitCount(blocks);
        }

        int statesInAll() {
            return STATES / CELLS * floors();
        }

        static int stateOf(int x, int y, int side, boolean isUp) {
            return x + WIDTH * y + CELLS * side + (isUp ? UP : 0);
        }

        private static int xOf(int state) {
            return state & 7;
        }

        private static int yOf(int state) {
            return state >> 3 & 7;
        }

        private static int sideOf(int state) {
            return state >> 6 & 3;
        }

        private static boolean isUpOf(int state) {
            return (state & UP) != 0;
        }

        /** Whether a SIDE is one at which a SHOT is HEADED up across it. */
        private static boolean isLow(int side) {
            return side == WEST || side == SOUTH;
        }

        private static boolean isAcrossX(int side) {
            return side == WEST || side == EAST;
        }

        private static int opposite(int side) {
            return side + 2 & 3;
        }

        private static int xBehind(int state, int side) {
            return xOf(state) + (side == EAST ? 1 : side == WEST ? -1 : 0);
        }

        private static int yBehind(int state, int side) {
            return yOf(state) + (side == NORTH ? 1 : side == SOUTH ? -1 : 0);
        }

        private boolean isBlockBehind(int state, int side) {
            return isBlock(xBehind(state, side), yBehind(state, side));
        }

        /** The SIDE to which a STEP goes in the CELL in which it begins. */
        private static int goalOf(int state) {
            if (isAcrossX(sideOf(state))) {
                return isUpOf(state) ? NORTH : SOUTH;
            }
            return isUpOf(state) ? EAST : WEST;
        }

        private boolean doesBounce(int state) {
            return isBlockBehind(state, goalOf(state));
        }

        private int after(int state) {
            int goal = goalOf(state);
            boolean isUp = isLow(sideOf(state));
            if (isBlockBehind(state, goal)) {
                return stateOf(xOf(state), yOf(state), goal, isUp);
            }
            return stateOf(xBehind(state, goal), yBehind(state, goal), opposite(goal), isUp);
        }

        private int before(int state) {
            int side = sideOf(state);
            int low = isAcrossX(side) ? SOUTH : WEST;
            int from = isUpOf(state) ? low : opposite(low);
            if (isBlockBehind(state, side)) {
                return stateOf(xOf(state), yOf(state), from, !isLow(side));
            }
            return stateOf(xBehind(state, side), yBehind(state, side), from, isLow(side));
        }

        int stepsRound(int start) {
            int steps = 1;
            for (int state = after(start); state != start && steps < STATES; state = after(state)) {
                steps++;
            }
            return steps;
        }

        int stepsRoundBackwards(int start) {
            int steps = 1;
            for (int state = before(start); state != start && steps < STATES; state = before(state)) {
                steps++;
            }
            return steps;
        }

        int bouncesRound(int start) {
            int bounces = 0;
            int state = start;
            for (int steps = 0; steps < STATES && (steps == 0 || state != start); steps++) {
                if (doesBounce(state)) {
                    bounces++;
                }
                state = after(state);
            }
            return bounces;
        }

        int cellsRound(int start) {
            long cells = 0L;
            int state = start;
            for (int steps = 0; steps < STATES && (steps == 0 || state != start); steps++) {
                cells |= 1L << (xOf(state) + WIDTH * yOf(state));
                state = after(state);
            }
            return Long.bitCount(cells);
        }

        int sideOfBounce(int start, int n) {
            int bounces = bouncesRound(start);
            int still = bounces > 0 ? n % bounces : 0;
            int state = start;
            for (int steps = 0; steps < STATES; steps++) {
                if (doesBounce(state)) {
                    if (still == 0) {
                        return goalOf(state);
                    }
                    still--;
                }
                state = after(state);
            }
            return goalOf(state);
        }

        int stateBehind(int start, int steps) {
            int period = stepsRound(start);
            int still = period > 0 ? steps % period : 0;
            int state = start;
            for (int done = 0; done < still; done++) {
                state = after(state);
            }
            return state;
        }

        int pathsInAll() {
            met.clear();
            int paths = 0;
            for (int state = 0; state < STATES; state++) {
                if (!isBlock(xOf(state), yOf(state)) && !met.has(state)) {
                    paths++;
                    meetPathOf(state);
                }
            }
            return paths;
        }

        private void meetPathOf(int start) {
            int state = start;
            for (int steps = 0; steps < STATES && !met.has(state); steps++) {
                met.add(state);
                state = after(state);
            }
        }
    }

    /** The lamps, and what CELLS see of each other. */
    private static final class Lamps {
        /** More lines between CELLS than these no line through the ROOM meets. */
        private static final int MOST_LINES = 14;

        private final int[] cellOf = new int[MOST_LAMPS];
        private int lamps = 0;

        boolean areFull() {
            return lamps >= MOST_LAMPS;
        }

        int add(int x, int y) {
            int number = lamps;
            put(cellOf, number, x + WIDTH * y);
            lamps++;
            return number;
        }

        int cellsLit(Room room) {
            int lit = 0;
            for (int cell = 0; cell < CELLS; cell++) {
                if (isLit(room, cell % WIDTH, cell / WIDTH)) {
                    lit++;
                }
            }
            return lit;
        }

        private boolean isLit(Room room, int x, int y) {
            for (int lamp = 0; lamp < lamps; lamp++) {
                int cell = at(cellOf, lamp);
                if (isFreeBetween(room, x, y, cell % WIDTH, cell / WIDTH)) {
                    return true;
                }
            }
            return false;
        }

        /** BLOCKS outside the rectangle between the two CELLS stay half a CELL away from the line. */
        static boolean isFreeBetween(Room room, int x, int y, int otherX, int otherY) {
            for (int blockX = Math.min(x, otherX); blockX <= Math.max(x, otherX); blockX++) {
                for (int blockY = Math.min(y, otherY); blockY <= Math.max(y, otherY); blockY++) {
                    if (room.isBlock(blockX, blockY)
                            && isMet(otherX - x, otherY - y, blockX - x, blockY - y)) {
                        return false;
                    }
                }
            }
            return true;
        }

        /**
         * Whether the line in the direction wide, high from the middle of a CELL meets the CELL that
         * lies right and up from it: its corners, all half a CELL from its middle, are not all on
         * the same side of the line. All is taken twice, so that it stays whole.
         */
        private static boolean isMet(int wide, int high, int right, int up) {
            int apart = 2 * Math.abs(wide * up - high * right);
            return apart <= Math.abs(wide) + Math.abs(high);
        }

        static boolean isFreeAlong(Room room, int x, int y, int otherX, int otherY) {
            int wide = Math.abs(otherX - x);
            int high = Math.abs(otherY - y);
            int crossedX = 0;
            int crossedY = 0;
            int atX = x;
            int atY = y;
            boolean isFree = !room.isBlock(x, y);
            for (int lines = 0; lines < MOST_LINES && isFree && crossedX + crossedY < wide + high; lines++) {
                // The next line across x comes (2 crossedX + 1) / (2 wide) of the way on, across y likewise.
                int later = Integer.compare((2 * crossedX + 1) * high, (2 * crossedY + 1) * wide);
                int nextX = later > 0 ? atX : otherX > x ? atX + 1 : atX - 1;
                int nextY = later < 0 ? atY : otherY > y ? atY + 1 : atY - 1;
                // Through a corner the line meets the two CELLS beside it as well.
                isFree = !room.isBlock(nextX, nextY)
                        && !room.isBlock(nextX, atY) && !room.isBlock(atX, nextY);
                crossedX += later > 0 ? 0 : 1;
                crossedY += later < 0 ? 0 : 1;
                atX = nextX;
                atY = nextY;
            }
            return isFree;
        }
    }

    /** The SQUARES and what they are glued to. Sets of SQUARES are held as the bits of a number. */
    private static final class Surface {
        /** 5 to the power of 10: no CODE has more than ten digits of 5. */
        private static final int ABOVE_ALL_CODES = 9765625;
        static final int CONES = 1, PIECES = 2, ROWS = 3, CYLINDERS = 4;

        private final int[] right = new int[MOST_SQUARES];
        private final int[] up = new int[MOST_SQUARES];
        private final int[] left = new int[MOST_SQUARES];
        private final int[] down = new int[MOST_SQUARES];
        private final int[] spare = new int[MOST_SQUARES];
        private final int[] order = new int[MOST_SQUARES];
        private final int[] number = new int[MOST_SQUARES];
        private int numbered = 0;
        private int squares = 1;

        int squares() {
            return squares;
        }

        void begin(int many) {
            squares = many;
            for (int square = 0; square < MOST_SQUARES; square++) {
                put(right, square, square);
                put(up, square, square);
            }
            glueBack();
        }

        /** Makes it the SURFACE of which this is a CODE. */
        void beginFrom(int code, int many) {
            squares = many;
            int still = code;
            for (int square = many - 1; square >= 0; square--) {
                put(up, square, still % MOST_SQUARES);
                still = still / MOST_SQUARES;
                put(right, square, still % MOST_SQUARES);
                still = still / MOST_SQUARES;
            }
            glueBack();
        }

        /** LEFT and DOWN follow from RIGHT and UP, and are due anew whenever those change. */
        private void glueBack() {
            for (int square = 0; square < squares; square++) {
                put(left, rightOf(square), square);
                put(down, upOf(square), square);
            }
        }

        int rightOf(int square) {
            return at(right, square);
        }

        int upOf(int square) {
            return at(up, square);
        }

        int leftOf(int square) {
            return at(left, square);
        }

        int downOf(int square) {
            return at(down, square);
        }

        int exchangeTwo(int square, int other, boolean isUp) {
            int[] row = isUp ? up : right;
            exchangeIn(row, square, other);
            glueBack();
            return at(row, square);
        }

        void shearAll() {
            for (int square = 0; square < squares; square++) {
                put(spare, square, upOf(rightOf(square)));
            }
            for (int square = 0; square < squares; square++) {
                put(up, square, at(spare, square));
            }
            glueBack();
        }

        void turnAll() {
            for (int square = 0; square < squares; square++) {
                put(spare, square, leftOf(square));
            }
            for (int square = 0; square < squares; square++) {
                put(right, square, upOf(square));
                put(up, square, at(spare, square));
            }
            glueBack();
        }

        private int roundCorner(int square) {
            return at(down, at(left, at(up, at(right, square))));
        }

        int sizeOf(int square, int what) {
            return Integer.bitCount(groupOf(square, what));
        }

        int groups(int what) {
            int met = 0;
            int groups = 0;
            for (int square = 0; square < squares; square++) {
                if ((met >> square & 1) == 0) {
                    groups++;
                    met |= groupOf(square, what);
                }
            }
            return groups;
        }

        /** All SQUARES of the CONE, PIECE, ROW or CYLINDER that has this one. */
        private int groupOf(int square, int what) {
            int group = 1 << square;
            // Each round but the last adds a SQUARE, so that as many rounds as SQUARES are enough.
            for (int round = 0; round < squares; round++) {
                for (int next = 0; next < squares; next++) {
                    group = grown(group, next, what);
                }
            }
            return group;
        }

        private int grown(int group, int square, int what) {
            if (what == CONES) {
                return withBoth(group, square, roundCorner(square));
            }
            int wider = withBoth(group, square, rightOf(square));
            if (what == PIECES || (what == CYLINDERS && isRowFlat(square))) {
                wider = withBoth(wider, square, upOf(square));
            }
            return wider;
        }

        private static int withBoth(int group, int square, int other) {
            int both = 1 << square | 1 << other;
            return (group & both) != 0 ? group | both : group;
        }

        /** Whether the ANGLE is 1 at each SQUARE of the ROW that has this one. */
        private boolean isRowFlat(int square) {
            int inRow = square;
            for (int steps = 0; steps < squares; steps++) {
                if (roundCorner(inRow) != inRow) {
                    return false;
                }
                inRow = rightOf(inRow);
            }
            return true;
        }

        /**
         * Once a numbering has begun in some SQUARE, its digits are least if each SQUARE that is new
         * in them gets the next number, so that the rest of its PIECE follows. PIECES of unlike
         * digits differ before the shorter one ends, so that each next one can be chosen by itself.
         */
        int leastCode() {
            int code = 0;
            numbered = 0;
            for (int piece = 0; piece < squares && Integer.bitCount(numbered) < squares; piece++) {
                code += numberFrom(leastBeginning());
            }
            return code;
        }

        private int leastBeginning() {
            int kept = numbered;
            int beginning = 0;
            int least = ABOVE_ALL_CODES;
            for (int square = 0; square < squares; square++) {
                if ((kept >> square & 1) == 0) {
                    int digits = numberFrom(square);
                    if (digits < least) {
                        least = digits;
                        beginning = square;
                    }
                    numbered = kept;
                }
            }
            return beginning;
        }

        /** Numbers a PIECE; returns its digits at their places in the CODE, all others 0. */
        private int numberFrom(int beginning) {
            int digits = 0;
            int first = Integer.bitCount(numbered);
            numberNext(beginning);
            for (int place = first; place < squares; place++) {
                digits = digits * MOST_SQUARES * MOST_SQUARES;
                if (place < Integer.bitCount(numbered)) {
                    int square = at(order, place);
                    numberNext(rightOf(square));
                    numberNext(upOf(square));
                    digits += MOST_SQUARES * at(number, rightOf(square)) + at(number, upOf(square));
                }
            }
            return digits;
        }

        private void numberNext(int square) {
            if ((numbered >> square & 1) == 0) {
                int next = Integer.bitCount(numbered);
                put(order, next, square);
                put(number, square, next);
                numbered |= 1 << square;
            }
        }
    }

    /** Finds all CODES that come by shears and turns, on a SURFACE of its own. */
    private static final class Kin {
        /** With 5 SQUARES there are 161 CODES in all, with fewer there are fewer. */
        private static final int MOST_CODES = 161;

        private final Surface tried = new Surface();
        private final int[] codes = new int[MOST_CODES];
        private int found = 0;

        int codesFrom(int code, int squares) {
            found = 0;
            find(code);
            for (int next = 0; next < MOST_CODES && next < found; next++) {
                tried.beginFrom(at(codes, next), squares);
                tried.shearAll();
                find(tried.leastCode());
                tried.beginFrom(at(codes, next), squares);
                tried.turnAll();
                find(tried.leastCode());
            }
            return found;
        }

        private void find(int code) {
            for (int known = 0; known < found; known++) {
                if (at(codes, known) == code) {
                    return;
                }
            }
            if (found < MOST_CODES) {
                put(codes, found, code);
                found++;
            }
        }
    }

    /** The INTERVALS in their two orders. */
    private static final class Exchange {
        private static final int MOST_POINTS = MOST_INTERVALS * MOST_LENGTH;

        private final int[] lengthOf = new int[MOST_INTERVALS];
        private final int[] above = new int[MOST_INTERVALS];
        private final int[] below = new int[MOST_INTERVALS];
        private final Marks met = new Marks();
        private int intervals = 0;

        int intervals() {
            return intervals;
        }

        boolean isFull() {
            return intervals >= MOST_INTERVALS;
        }

        int add(int length) {
            int number = intervals;
            put(lengthOf, number, length);
            put(above, number, number);
            put(below, number, number);
            intervals++;
            return number;
        }

        int points() {
            int sum = 0;
            for (int number = 0; number < intervals; number++) {
                sum += at(lengthOf, number);
            }
            return sum;
        }

        int aboveAt(int place) {
            return at(above, place);
        }

        int belowAt(int place) {
            return at(below, place);
        }

        int lengthAt(int place) {
            return at(lengthOf, at(above, place));
        }

        int swapBelow(int place, int other) {
            exchangeIn(below, place, other);
            return at(below, place);
        }

        boolean canInduce() {
            int a = at(above, intervals - 1);
            int b = at(below, intervals - 1);
            return intervals > 0 && a != b && at(lengthOf, a) != at(lengthOf, b);
        }

        void induceOnce() {
            int a = at(above, intervals - 1);
            int b = at(below, intervals - 1);
            int longer = at(lengthOf, a) - at(lengthOf, b);
            if (longer > 0) {
                put(lengthOf, a, longer);
                moveLastBehind(below, a);
            } else {
                put(lengthOf, b, -longer);
                moveLastBehind(above, b);
            }
        }

        private void moveLastBehind(int[] order, int leader) {
            int goal = placeOf(order, intervals, leader) + 1;
            int last = at(order, intervals - 1);
            for (int place = intervals - 1; place > goal; place--) {
                put(order, place, at(order, place - 1));
            }
            put(order, goal, last);
        }

        int imageOf(int point) {
            return carried(point, above, below);
        }

        int originOf(int point) {
            return carried(point, below, above);
        }

        private int carried(int point, int[] from, int[] to) {
            int begin = 0;
            for (int place = 0; place < intervals; place++) {
                int number = at(from, place);
                int end = begin + at(lengthOf, number);
                if (point < end) {
                    return beginIn(to, number) + point - begin;
                }
                begin = end;
            }
            return point;
        }

        private int beginIn(int[] order, int number) {
            int begin = 0;
            for (int place = 0; place < intervals && at(order, place) != number; place++) {
                begin += at(lengthOf, at(order, place));
            }
            return begin;
        }

        int imagesRound(int start) {
            int images = 1;
            for (int point = imageOf(start); point != start && images < MOST_POINTS; point = imageOf(point)) {
                images++;
            }
            return images;
        }

        int cyclesInAll() {
            met.clear();
            int cycles = 0;
            int points = points();
            for (int point = 0; point < points; point++) {
                if (!met.has(point)) {
                    cycles++;
                    meetCycleOf(point);
                }
            }
            return cycles;
        }

        private void meetCycleOf(int start) {
            int point = start;
            for (int images = 0; images < MOST_POINTS && !met.has(point); images++) {
                met.add(point);
                point = imageOf(point);
            }
        }

        int leastApart() {
            int firstAbove = 0;
            int firstBelow = 0;
            for (int place = 0; place < intervals; place++) {
                firstAbove |= 1 << at(above, place);
                firstBelow |= 1 << at(below, place);
                if (firstAbove == firstBelow) {
                    return place + 1;
                }
            }
            return 0;
        }
    }
}
