import java.util.ArrayList;
import java.util.List;

/** Makes objects that stand as a test wants them. */
final class Make {
    private Make() {
    }

    static Billiardry bare() {
        return new Billiardry();
    }

    /** Some of each: three BLOCKS, two lamps, a SURFACE of three SQUARES, two INTERVALS. */
    static Billiardry some() {
        Billiardry made = blocks(2, 2, 5, 2, 0, 7);
        made.lamp(0, 0);
        made.lamp(7, 7);
        made.surface(3);
        made.glue(0, 1, false);
        made.glue(0, 2, true);
        made.interval(50);
        made.interval(3);
        made.swap(0, 1);
        return made;
    }

    /** All that there can be: six lamps, one in a BLOCK; five SQUARES in two PIECES; six INTERVALS. */
    static Billiardry full() {
        Billiardry made = new Billiardry();
        for (int k = 0; k < 5; k++) {
            made.block(k, 2 * k % 8, true);
            made.block(7 - k, 5, true);
            made.lamp(7, k);
        }
        made.lamp(1, 2);
        made.surface(5);
        made.glue(0, 1, false);
        made.glue(1, 2, true);
        made.glue(3, 4, true);
        for (int k = 0; k < 6; k++) {
            made.interval(k == 5 ? 1 : k + 1);
        }
        made.swap(0, 5);
        return made;
    }

    /** A ROOM with these BLOCKS, told as x and y by turns. */
    static Billiardry blocks(int... cells) {
        Billiardry room = new Billiardry();
        for (int k = 0; k < cells.length; k += 2) {
            room.block(cells[k], cells[k + 1], true);
        }
        return room;
    }

    /** A ROOM whose FLOOR is these CELLS alone, told as x and y by turns. */
    static Billiardry floor(int... cells) {
        Billiardry room = new Billiardry();
        blockAll(room);
        for (int k = 0; k < cells.length; k += 2) {
            room.block(cells[k], cells[k + 1], false);
        }
        return room;
    }

    static void blockAll(Billiardry room) {
        for (int cell = 0; cell < 64; cell++) {
            room.block(cell % 8, cell / 8, true);
        }
    }

    /** Gluings, each as two SQUARES; the first RIGHTS, behind a -1 UPS. */
    static Billiardry glued(int squares, int... pairs) {
        Billiardry surface = new Billiardry();
        surface.surface(squares);
        boolean isUp = false;
        int k = 0;
        while (k < pairs.length) {
            if (pairs[k] < 0) {
                isUp = true;
                k++;
            } else {
                surface.glue(pairs[k], pairs[k + 1], isUp);
                k += 2;
            }
        }
        return surface;
    }

    /** A SURFACE told as a CODE is: the digits of RIGHT and UP of each SQUARE. */
    static Billiardry surface(String digits) {
        int squares = digits.length() / 2;
        Billiardry surface = new Billiardry();
        surface.surface(squares);
        for (int what = 0; what < 2; what++) {
            for (int square = 0; square < squares; square++) {
                int due = digits.charAt(2 * square + what) - '0';
                for (int other = square + 1; other < squares; other++) {
                    if (surface.square(other, what) == due) {
                        surface.glue(square, other, what == 1);
                    }
                }
            }
        }
        return surface;
    }

    static Billiardry intervals(int... lengths) {
        Billiardry exchange = new Billiardry();
        for (int length : lengths) {
            exchange.interval(length);
        }
        return exchange;
    }

    /** Exchanges places so that these INTERVALS lie BELOW. */
    static Billiardry layBelow(Billiardry exchange, int... order) {
        for (int place = 0; place < order.length; place++) {
            for (int other = place + 1; other < order.length; other++) {
                if (exchange.told(other, 1) == order[place]) {
                    exchange.swap(place, other);
                }
            }
        }
        return exchange;
    }

    /** The numbers from 0 on below a bound, in each order. */
    static List<int[]> orders(int many) {
        List<int[]> orders = new ArrayList<>();
        addOrders(new int[many], 0, orders);
        return orders;
    }

    private static void addOrders(int[] begun, int place, List<int[]> orders) {
        if (place == begun.length) {
            orders.add(begun.clone());
            return;
        }
        for (int k = 0; k < begun.length; k++) {
            boolean isFree = true;
            for (int before = 0; before < place; before++) {
                isFree &= begun[before] != k;
            }
            if (isFree) {
                begun[place] = k;
                addOrders(begun, place + 1, orders);
            }
        }
    }
}
