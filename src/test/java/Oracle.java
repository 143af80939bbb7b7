import java.util.ArrayList;
import java.util.Collections;
import java.util.HashMap;
import java.util.HashSet;
import java.util.LinkedHashSet;
import java.util.List;
import java.util.Map;
import java.util.Set;
import java.util.TreeSet;

/**
 * The same face as Billiardry's, built from the document by other means: SHOTS move on a grid of half
 * CELLS, lines are cut by each BLOCK of the ROOM, all numberings of SQUARES are written out as texts,
 * all POINTS as lists.
 */
public final class Oracle {
    // ---- the ROOM

    private final boolean[][] blocks = new boolean[8][8];

    private boolean isOut(int x, int y) {
        return x < 0 || x > 7 || y < 0 || y > 7;
    }

    private boolean isSolid(int x, int y) {
        return isOut(x, y) || blocks[x][y];
    }

    /** A SHOT: its CELL, its place in half CELLS, and how it is HEADED. */
    private final class Ball {
        int x;
        int y;
        int placeX;
        int placeY;
        int goX;
        int goY;
        boolean bounced = false;

        Ball(int x, int y, int side, boolean isUp) {
            this.x = x;
            this.y = y;
            int[] addX = {0, 1, 2, 1};
            int[] addY = {1, 0, 1, 2};
            placeX = 2 * x + addX[side];
            placeY = 2 * y + addY[side];
            goX = side == 0 ? 1 : side == 2 ? -1 : isUp ? 1 : -1;
            goY = side == 1 ? 1 : side == 3 ? -1 : isUp ? 1 : -1;
        }

        void go() {
            placeX += goX;
            placeY += goY;
            boolean atUpright = placeX % 2 == 0;
            int behindX = atUpright ? x + goX : x;
            int behindY = atUpright ? y : y + goY;
            bounced = isSolid(behindX, behindY);
            if (!bounced) {
                x = behindX;
                y = behindY;
            } else if (atUpright) {
                goX = -goX;
            } else {
                goY = -goY;
            }
        }

        int side() {
            if (placeX % 2 == 0) {
                return placeX == 2 * x ? 0 : 2;
            }
            return placeY == 2 * y ? 1 : 3;
        }

        int told() {
            boolean isUp = side() % 2 == 0 ? goY > 0 : goX > 0;
            return x + 8 * y + 64 * side() + (isUp ? 256 : 0);
        }
    }

    private Ball ball(int x, int y, int side, boolean isUp, boolean isInRange) {
        if (isOut(x, y)) {
            throw new IndexOutOfBoundsException();
        }
        if (side < 0 || side > 3 || !isInRange) {
            throw new IllegalArgumentException();
        }
        if (blocks[x][y]) {
            throw new IllegalStateException();
        }
        return new Ball(x, y, side, isUp);
    }

    public boolean block(int x, int y, boolean is) {
        if (isOut(x, y)) {
            throw new IndexOutOfBoundsException();
        }
        boolean was = blocks[x][y];
        blocks[x][y] = is;
        return was;
    }

    private List<Integer> statesOf(Ball ball) {
        List<Integer> states = new ArrayList<>();
        Set<Integer> met = new HashSet<>();
        while (met.add(ball.told())) {
            states.add(ball.told());
            ball.go();
        }
        if (ball.told() != states.get(0)) {
            throw new IllegalStateException("a PATH that does not come back");
        }
        return states;
    }

    public int period(int x, int y, int side, boolean isUp) {
        return statesOf(ball(x, y, side, isUp, true)).size();
    }

    public int periodAnew(int x, int y, int side, boolean isUp) {
        return period(x, y, side, isUp);
    }

    public int bounces(int x, int y, int side, boolean isUp) {
        int period = period(x, y, side, isUp);
        Ball ball = ball(x, y, side, isUp, true);
        int bounces = 0;
        for (int k = 0; k < period; k++) {
            ball.go();
            bounces += ball.bounced ? 1 : 0;
        }
        return bounces;
    }

    public int touched(int x, int y, int side, boolean isUp) {
        Set<Integer> cells = new HashSet<>();
        for (int state : statesOf(ball(x, y, side, isUp, true))) {
            cells.add(state % 64);
        }
        return cells.size();
    }

    public int bounce(int x, int y, int side, boolean isUp, int n) {
        Ball ball = ball(x, y, side, isUp, n >= 0 && n <= 100000);
        for (int k = 0; k <= n; k++) {
            ball.go();
            while (!ball.bounced) {
                ball.go();
            }
        }
        return ball.side();
    }

    public int state(int x, int y, int side, boolean isUp, int steps) {
        List<Integer> states = statesOf(ball(x, y, side, isUp, steps >= 0));
        return states.get(steps % states.size());
    }

    private int floors() {
        int floors = 0;
        for (int cell = 0; cell < 64; cell++) {
            floors += blocks[cell % 8][cell / 8] ? 0 : 1;
        }
        return floors;
    }

    public int paths() {
        Set<TreeSet<Integer>> paths = new HashSet<>();
        for (int k = 0; k < 512; k++) {
            if (!blocks[k % 8][k / 8 % 8]) {
                paths.add(new TreeSet<>(statesOf(new Ball(k % 8, k / 8 % 8, k / 64 % 4, k >= 256))));
            }
        }
        return paths.size();
    }

    public float mean() {
        return floors() == 0 ? 0.0f : (float) (8 * floors()) / (float) paths();
    }

    // ---- lamps

    private final List<int[]> lamps = new ArrayList<>();

    public int lamp(int x, int y) {
        if (isOut(x, y)) {
            throw new IndexOutOfBoundsException();
        }
        if (lamps.size() == 6) {
            throw new IllegalStateException();
        }
        lamps.add(new int[] {x, y});
        return lamps.size() - 1;
    }

    /**
     * The part of the way, in 840ths of it, in which the line is between two coordinates: 840 can be
     * divided by twice each number from 1 to 7, and a line goes on by twice such a number.
     */
    private static int[] within(int from, int go, int low, int high) {
        if (go == 0) {
            return from >= low && from <= high ? new int[] {0, 840} : new int[] {1, 0};
        }
        int one = (low - from) * 840 / go;
        int two = (high - from) * 840 / go;
        return new int[] {Math.max(0, Math.min(one, two)), Math.min(840, Math.max(one, two))};
    }

    public boolean sees(int x, int y, int otherX, int otherY) {
        if (isOut(x, y) || isOut(otherX, otherY)) {
            throw new IndexOutOfBoundsException();
        }
        for (int cell = 0; cell < 64; cell++) {
            int blockX = cell % 8;
            int blockY = cell / 8;
            int[] inX = within(2 * x + 1, 2 * (otherX - x), 2 * blockX, 2 * blockX + 2);
            int[] inY = within(2 * y + 1, 2 * (otherY - y), 2 * blockY, 2 * blockY + 2);
            if (blocks[blockX][blockY] && Math.max(inX[0], inY[0]) <= Math.min(inX[1], inY[1])) {
                return false;
            }
        }
        return true;
    }

    public boolean seesAnew(int x, int y, int otherX, int otherY) {
        return sees(x, y, otherX, otherY);
    }

    public int lit() {
        Set<Integer> lit = new HashSet<>();
        for (int cell = 0; cell < 64; cell++) {
            for (int[] lamp : lamps) {
                if (sees(lamp[0], lamp[1], cell % 8, cell / 8)) {
                    lit.add(cell);
                }
            }
        }
        return lit.size();
    }

    public float share() {
        return floors() == 0 ? 0.0f : (float) lit() / (float) floors();
    }

    // ---- the SURFACE

    private static final Map<String, Integer> CODES = new HashMap<>();
    private static final Map<String, Integer> KIN = new HashMap<>();

    private int[] right = {0};
    private int[] up = {0};

    private static int[] reversed(int[] row) {
        int[] back = new int[row.length];
        for (int k = 0; k < row.length; k++) {
            back[row[k]] = k;
        }
        return back;
    }

    private static String textOf(int[] right, int[] up) {
        StringBuilder text = new StringBuilder();
        for (int k = 0; k < right.length; k++) {
            text.append(right[k]).append(up[k]);
        }
        return text.toString();
    }

    private static void numberings(List<Integer> begun, int many, List<List<Integer>> all) {
        if (begun.size() == many) {
            all.add(new ArrayList<>(begun));
            return;
        }
        for (int k = 0; k < many; k++) {
            if (!begun.contains(k)) {
                begun.add(k);
                numberings(begun, many, all);
                begun.remove(begun.size() - 1);
            }
        }
    }

    private static int codeOf(int[] right, int[] up) {
        String key = textOf(right, up);
        Integer known = CODES.get(key);
        if (known != null) {
            return known;
        }
        List<List<Integer>> all = new ArrayList<>();
        numberings(new ArrayList<>(), right.length, all);
        TreeSet<String> texts = new TreeSet<>();
        for (List<Integer> numbers : all) {
            int[] newRight = new int[right.length];
            int[] newUp = new int[right.length];
            for (int k = 0; k < right.length; k++) {
                newRight[numbers.get(k)] = numbers.get(right[k]);
                newUp[numbers.get(k)] = numbers.get(up[k]);
            }
            texts.add(textOf(newRight, newUp));
        }
        int code = Integer.parseInt(texts.first(), 5);
        CODES.put(key, code);
        return code;
    }

    public int surface(int squares) {
        if (squares < 1 || squares > 5) {
            throw new IllegalArgumentException();
        }
        int before = right.length;
        right = new int[squares];
        for (int k = 0; k < squares; k++) {
            right[k] = k;
        }
        up = right.clone();
        return before;
    }

    private void checkSquare(int square) {
        if (square < 0 || square >= right.length) {
            throw new IndexOutOfBoundsException();
        }
    }

    public int glue(int square, int other, boolean isUp) {
        checkSquare(square);
        checkSquare(other);
        int[] row = isUp ? up : right;
        int kept = row[square];
        row[square] = row[other];
        row[other] = kept;
        return row[square];
    }

    private static int[][] sheared(int[] right, int[] up) {
        int[] newUp = new int[up.length];
        for (int k = 0; k < up.length; k++) {
            newUp[k] = up[right[k]];
        }
        return new int[][] {right.clone(), newUp};
    }

    private static int[][] turned(int[] right, int[] up) {
        return new int[][] {up.clone(), reversed(right)};
    }

    public int shear() {
        int[][] next = sheared(right, up);
        right = next[0];
        up = next[1];
        return code();
    }

    public int turn() {
        int[][] next = turned(right, up);
        right = next[0];
        up = next[1];
        return code();
    }

    private int corner(int k) {
        return reversed(up)[reversed(right)[up[right[k]]]];
    }

    /** Groups by joining the sets of all pairs, until no two sets share a SQUARE. */
    private Set<Set<Integer>> joined(List<int[]> pairs) {
        List<Set<Integer>> sets = new ArrayList<>();
        for (int k = 0; k < right.length; k++) {
            sets.add(new TreeSet<>(Set.of(k)));
        }
        for (int[] pair : pairs) {
            Set<Integer> one = sets.get(pair[0]);
            Set<Integer> two = sets.get(pair[1]);
            one.addAll(two);
            for (int k : two) {
                sets.set(k, one);
            }
        }
        return new LinkedHashSet<>(sets);
    }

    private Set<Set<Integer>> cones() {
        List<int[]> pairs = new ArrayList<>();
        for (int k = 0; k < right.length; k++) {
            pairs.add(new int[] {k, corner(k)});
        }
        return joined(pairs);
    }

    private List<int[]> rightPairs() {
        List<int[]> pairs = new ArrayList<>();
        for (int k = 0; k < right.length; k++) {
            pairs.add(new int[] {k, right[k]});
        }
        return pairs;
    }

    private Set<Set<Integer>> pieces() {
        List<int[]> pairs = rightPairs();
        for (int k = 0; k < right.length; k++) {
            pairs.add(new int[] {k, up[k]});
        }
        return joined(pairs);
    }

    private Set<Set<Integer>> rows() {
        return joined(rightPairs());
    }

    private Set<Set<Integer>> cylinders() {
        List<int[]> pairs = rightPairs();
        for (Set<Integer> row : rows()) {
            boolean isFlat = true;
            for (int k : row) {
                isFlat &= sizeIn(cones(), k) == 1;
            }
            int any = row.iterator().next();
            if (isFlat) {
                pairs.add(new int[] {any, up[any]});
            }
        }
        return joined(pairs);
    }

    private static int sizeIn(Set<Set<Integer>> sets, int k) {
        for (Set<Integer> set : sets) {
            if (set.contains(k)) {
                return set.size();
            }
        }
        return 0;
    }

    public int square(int square, int what) {
        checkSquare(square);
        switch (what) {
            case 0: return right[square];
            case 1: return up[square];
            case 2: return reversed(right)[square];
            case 3: return reversed(up)[square];
            case 4: return sizeIn(cones(), square);
            case 5: return sizeIn(pieces(), square);
            case 6: return sizeIn(rows(), square);
            default: throw new IllegalArgumentException();
        }
    }

    public int count(int what) {
        switch (what) {
            case 0: return right.length;
            case 1: return cones().size();
            case 2: return pieces().size();
            case 3: return rows().size();
            case 4: return cylinders().size();
            default: throw new IllegalArgumentException();
        }
    }

    public int genus() {
        if (pieces().size() > 1) {
            throw new IllegalStateException();
        }
        return 1 + (right.length - cones().size()) / 2;
    }

    public int code() {
        return codeOf(right, up);
    }

    /** Goes through the SURFACES themselves, not through their CODES alone. */
    public int kin() {
        Integer known = KIN.get(textOf(right, up));
        if (known != null) {
            return known;
        }
        Map<String, int[][]> all = new HashMap<>();
        List<int[][]> open = new ArrayList<>();
        int[][] first = {right, up};
        all.put(textOf(right, up), first);
        open.add(first);
        Set<Integer> codes = new HashSet<>();
        while (!open.isEmpty()) {
            int[][] next = open.remove(open.size() - 1);
            codes.add(codeOf(next[0], next[1]));
            for (int[][] more : List.of(sheared(next[0], next[1]), turned(next[0], next[1]))) {
                if (all.putIfAbsent(textOf(more[0], more[1]), more) == null) {
                    open.add(more);
                }
            }
        }
        for (String text : all.keySet()) {
            KIN.put(text, codes.size());
        }
        return codes.size();
    }

    // ---- the EXCHANGE

    private final List<Integer> lengths = new ArrayList<>();
    private List<Integer> above = new ArrayList<>();
    private List<Integer> below = new ArrayList<>();

    private void checkPlace(int place) {
        if (place < 0 || place >= lengths.size()) {
            throw new IndexOutOfBoundsException();
        }
    }

    public int interval(int length) {
        if (length < 1 || length > 50) {
            throw new IllegalArgumentException();
        }
        if (lengths.size() == 6) {
            throw new IllegalStateException();
        }
        above.add(lengths.size());
        below.add(lengths.size());
        lengths.add(length);
        return lengths.size() - 1;
    }

    public int swap(int place, int other) {
        checkPlace(place);
        checkPlace(other);
        Collections.swap(below, place, other);
        return below.get(place);
    }

    private static List<Integer> movedBehind(List<Integer> order, int leader, int moved) {
        List<Integer> others = new ArrayList<>();
        for (int k : order) {
            if (k != moved) {
                others.add(k);
            }
            if (k == leader) {
                others.add(moved);
            }
        }
        return others;
    }

    public int induce() {
        int last = lengths.size() - 1;
        if (last < 0) {
            throw new IllegalStateException();
        }
        int a = above.get(last);
        int b = below.get(last);
        if (lengths.get(a).equals(lengths.get(b))) {
            throw new IllegalStateException();
        }
        if (lengths.get(a) > lengths.get(b)) {
            lengths.set(a, lengths.get(a) - lengths.get(b));
            below = movedBehind(below, a, b);
        } else {
            lengths.set(b, lengths.get(b) - lengths.get(a));
            above = movedBehind(above, b, a);
        }
        return pointsOf(above).size();
    }

    public int told(int place, int what) {
        checkPlace(place);
        switch (what) {
            case 0: return above.get(place);
            case 1: return below.get(place);
            case 2: return lengths.get(above.get(place));
            default: throw new IllegalArgumentException();
        }
    }

    private List<String> pointsOf(List<Integer> order) {
        List<String> points = new ArrayList<>();
        for (int k : order) {
            for (int far = 0; far < lengths.get(k); far++) {
                points.add(k + "+" + far);
            }
        }
        return points;
    }

    private int carried(int point, List<Integer> from, List<Integer> to) {
        if (point < 0 || point >= pointsOf(from).size()) {
            throw new IndexOutOfBoundsException();
        }
        return pointsOf(to).indexOf(pointsOf(from).get(point));
    }

    public int image(int point) {
        return carried(point, above, below);
    }

    public int back(int point) {
        return carried(point, below, above);
    }

    private int[] images() {
        List<String> to = pointsOf(below);
        Map<String, Integer> places = new HashMap<>();
        for (int k = 0; k < to.size(); k++) {
            places.put(to.get(k), k);
        }
        int[] images = new int[to.size()];
        int point = 0;
        for (String text : pointsOf(above)) {
            images[point++] = places.get(text);
        }
        return images;
    }

    public int cycle(int point) {
        image(point);
        int[] images = images();
        int many = 1;
        for (int k = images[point]; k != point; k = images[k]) {
            many++;
        }
        return many;
    }

    public int cycles() {
        int[] images = images();
        Set<Set<Integer>> cycles = new HashSet<>();
        for (int point = 0; point < images.length; point++) {
            Set<Integer> cycle = new TreeSet<>();
            for (int k = point; cycle.add(k); k = images[k]) {
                continue;
            }
            cycles.add(cycle);
        }
        return cycles.size();
    }

    public int apart() {
        for (int many = 1; many <= lengths.size(); many++) {
            if (new HashSet<>(above.subList(0, many)).equals(new HashSet<>(below.subList(0, many)))) {
                return many;
            }
        }
        return 0;
    }
}
