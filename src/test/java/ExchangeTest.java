/** Promises 25 to 33: the EXCHANGE. */
public final class ExchangeTest {
    private ExchangeTest() {
    }

    private static void told(String name, Billiardry exchange, int what, int... due) {
        for (int place = 0; place < due.length; place++) {
            Check.same(name + ": told(" + place + ", " + what + ")", exchange.told(place, what), due[place]);
        }
        Check.index(name + ": no such place", () -> exchange.told(due.length, what));
    }

    private static void promise25Interval() {
        Billiardry exchange = new Billiardry();
        int[] wrong = {0, 51, -1, Integer.MIN_VALUE, Integer.MAX_VALUE};
        for (int length : wrong) {
            Check.argument("interval(" + length + ")", () -> exchange.interval(length));
        }
        Check.index("nothing came", () -> exchange.told(0, 0));
        int[] lengths = {1, 50, 7, 49, 2, 50};
        for (int number = 0; number < 6; number++) {
            Check.same("interval " + number, exchange.interval(lengths[number]), number);
        }
        Check.standing("interval 6", () -> exchange.interval(1));
        Check.standing("interval 6 again", () -> exchange.interval(50));
        for (int length : wrong) {
            Check.argument("interval 6 of LENGTH " + length, () -> exchange.interval(length));
        }
        told("new ones ABOVE", exchange, 0, 0, 1, 2, 3, 4, 5);
        told("new ones BELOW", exchange, 1, 0, 1, 2, 3, 4, 5);
        told("new ones' LENGTHS", exchange, 2, lengths);
        Billiardry later = Make.intervals(3, 4);
        later.swap(0, 1);
        later.interval(5);
        told("a later one BELOW", later, 1, 1, 0, 2);
        told("a later one ABOVE", later, 0, 0, 1, 2);
    }

    private static void promise26Swap() {
        Billiardry exchange = Make.intervals(1, 2, 3);
        Check.same("swap(0, 2)", exchange.swap(0, 2), 2);
        Check.same("swap(1, 0)", exchange.swap(1, 0), 2);
        Check.same("swap(2, 2)", exchange.swap(2, 2), 0);
        told("swapped BELOW", exchange, 1, 1, 2, 0);
        told("ABOVE stays", exchange, 0, 0, 1, 2);
        told("LENGTHS stay", exchange, 2, 1, 2, 3);
        int[] wrong = {-1, 3, Integer.MIN_VALUE, Integer.MAX_VALUE};
        for (int place : wrong) {
            Check.index("swap(" + place + ", 0)", () -> exchange.swap(place, 0));
            Check.index("swap(0, " + place + ")", () -> exchange.swap(0, place));
        }
        told("still so BELOW", exchange, 1, 1, 2, 0);
        Billiardry none = new Billiardry();
        Check.index("swap without INTERVALS", () -> none.swap(0, 0));
    }

    private static void promise27Induce() {
        Billiardry aLonger = Make.intervals(1, 2, 5);
        Make.layBelow(aLonger, 2, 1, 0);
        Check.same("A is longer", aLonger.induce(), 7);
        told("A is longer: ABOVE", aLonger, 0, 0, 1, 2);
        told("A is longer: BELOW", aLonger, 1, 2, 0, 1);
        told("A is longer: LENGTHS", aLonger, 2, 1, 2, 4);
        Check.same("A is longer again", aLonger.induce(), 5);
        told("A is longer again: BELOW", aLonger, 1, 2, 1, 0);
        told("A is longer again: LENGTHS", aLonger, 2, 1, 2, 2);
        Billiardry bLonger = Make.intervals(7, 5, 3, 4);
        Make.layBelow(bLonger, 3, 1, 2, 0);
        Check.same("B is longer", bLonger.induce(), 15);
        told("B is longer: ABOVE", bLonger, 0, 0, 3, 1, 2);
        told("B is longer: BELOW", bLonger, 1, 3, 1, 2, 0);
        told("B is longer: LENGTHS", bLonger, 2, 3, 4, 5, 3);
        Check.standing("then they are as long", bLonger::induce);
        Billiardry middle = Make.intervals(1, 9, 2, 4, 3);
        Make.layBelow(middle, 3, 0, 4, 2, 1);
        Check.same("B in the middle ABOVE", middle.induce(), 16);
        told("B in the middle: ABOVE", middle, 0, 0, 1, 4, 2, 3);
        told("B in the middle: LENGTHS", middle, 2, 1, 6, 3, 2, 4);
        Check.same("B in the middle ABOVE, again", middle.induce(), 12);
        told("B in the middle, again: ABOVE", middle, 0, 0, 1, 3, 4, 2);
        told("B in the middle, again: LENGTHS", middle, 2, 1, 2, 4, 3, 2);
        Billiardry inBelow = Make.intervals(1, 2, 3, 8);
        Make.layBelow(inBelow, 1, 3, 0, 2);
        Check.same("A in the middle BELOW", inBelow.induce(), 11);
        told("A in the middle: BELOW", inBelow, 1, 1, 3, 2, 0);
        told("A in the middle: LENGTHS", inBelow, 2, 1, 2, 3, 5);
        Billiardry near = Make.intervals(3, 2);
        near.swap(0, 1);
        Check.same("two: B is longer", near.induce(), 3);
        told("two: ABOVE stays", near, 0, 0, 1);
        Check.same("two: A is longer", near.induce(), 2);
        told("two: BELOW stays", near, 1, 1, 0);
        Check.standing("two as long", near::induce);
        told("two as long: LENGTHS", near, 2, 1, 1);
        Check.standing("no INTERVALS", new Billiardry()::induce);
        Check.standing("one INTERVAL", Make.intervals(50)::induce);
        Check.standing("A is B", Make.intervals(1, 2, 3)::induce);
        Billiardry alike = Make.intervals(6, 1, 6);
        alike.swap(0, 2);
        Check.standing("the same LENGTH", alike::induce);
        told("the same LENGTH: BELOW", alike, 1, 2, 1, 0);
        told("the same LENGTH: LENGTHS", alike, 2, 6, 1, 6);
    }

    private static void promise28Told() {
        Billiardry exchange = Make.intervals(4, 9);
        int[] wrong = {-1, 3, Integer.MIN_VALUE, Integer.MAX_VALUE};
        for (int what : wrong) {
            Check.argument("told(0, " + what + ")", () -> exchange.told(0, what));
            Check.index("told(2, " + what + ")", () -> exchange.told(2, what));
            Check.index("told(-1, " + what + ")", () -> exchange.told(-1, what));
        }
        Check.index("told(least)", () -> exchange.told(Integer.MIN_VALUE, 0));
        Check.index("told(most)", () -> exchange.told(Integer.MAX_VALUE, 0));
        Check.index("told without INTERVALS", () -> new Billiardry().told(0, 0));
        Check.index("told without INTERVALS, what out of range", () -> new Billiardry().told(0, 3));
    }

    private static void promises29To32() {
        Billiardry exchange = Make.intervals(3, 2);
        exchange.swap(0, 1);
        int[] images = {2, 3, 4, 0, 1};
        for (int point = 0; point < 5; point++) {
            Check.same("image " + point, exchange.image(point), images[point]);
            Check.same("back of " + images[point], exchange.back(images[point]), point);
            Check.same("cycle " + point, exchange.cycle(point), 5);
        }
        Check.same("cycles of a turn by 2 of 5", exchange.cycles(), 1);
        Billiardry half = Make.intervals(2, 4);
        half.swap(0, 1);
        Check.same("cycle of a turn by 4 of 6", half.cycle(5), 3);
        Check.same("cycles of a turn by 4 of 6", half.cycles(), 2);
        Billiardry three = Make.intervals(7, 5, 3);
        three.swap(0, 2);
        Check.same("three: image 0", three.image(0), 8);
        Check.same("three: image 7", three.image(7), 3);
        Check.same("three: image 14", three.image(14), 2);
        Check.same("three: back 0", three.back(0), 12);
        Check.same("three: cycle 0", three.cycle(0), 4);
        Check.same("three: cycles", three.cycles(), 4);
        Billiardry most = Make.intervals(50, 50, 50, 50, 50, 50);
        Check.same("most: image 299", most.image(299), 299);
        Check.same("most: cycles", most.cycles(), 300);
        Make.layBelow(most, 5, 0, 1, 2, 3, 4);
        Check.same("most: image 299", most.image(299), 49);
        Check.same("most: back 299", most.back(299), 249);
        Check.same("most: cycle 299", most.cycle(299), 6);
        Check.same("most: cycles", most.cycles(), 50);
        Billiardry longest = Make.intervals(49, 50, 50, 50, 50, 50);
        Make.layBelow(longest, 1, 2, 3, 4, 5, 0);
        Check.same("longest: cycle", longest.cycle(0), 299);
        Check.same("longest: cycles", longest.cycles(), 1);
        wrongPoints(most, 300);
        wrongPoints(exchange, 5);
        wrongPoints(new Billiardry(), 0);
        Check.same("no INTERVALS: cycles", new Billiardry().cycles(), 0);
    }

    private static void wrongPoints(Billiardry exchange, int points) {
        int[] wrong = {-1, points, Integer.MIN_VALUE, Integer.MAX_VALUE};
        for (int point : wrong) {
            Check.index("image(" + point + ")", () -> exchange.image(point));
            Check.index("back(" + point + ")", () -> exchange.back(point));
            Check.index("cycle(" + point + ")", () -> exchange.cycle(point));
        }
    }

    private static void promise33Apart() {
        Check.same("no INTERVALS: apart", new Billiardry().apart(), 0);
        Check.same("one: apart", Make.intervals(5).apart(), 1);
        Billiardry exchange = Make.intervals(1, 2, 3, 4, 5, 6);
        Check.same("as they came: apart", exchange.apart(), 1);
        Make.layBelow(exchange, 1, 0, 2, 3, 4, 5);
        Check.same("the first two: apart", exchange.apart(), 2);
        Make.layBelow(exchange, 2, 0, 1, 5, 4, 3);
        Check.same("the first three: apart", exchange.apart(), 3);
        Make.layBelow(exchange, 5, 4, 3, 2, 1, 0);
        Check.same("all: apart", exchange.apart(), 6);
        Make.layBelow(exchange, 0, 5, 4, 3, 2, 1);
        Check.same("the first one: apart", exchange.apart(), 1);
        Billiardry induced = Make.intervals(7, 5, 3);
        Make.layBelow(induced, 2, 0, 1);
        Check.same("before: apart", induced.apart(), 3);
        Check.same("induced", induced.induce(), 12);
        told("ABOVE", induced, 0, 0, 1, 2);
        Billiardry moved = Make.intervals(9, 5, 3);
        Make.layBelow(moved, 2, 1, 0);
        moved.induce();
        told("ABOVE is not in the order of the numbers", moved, 0, 0, 2, 1);
        Make.layBelow(moved, 2, 0, 1);
        Check.same("ABOVE counts by its own order: apart", moved.apart(), 2);
    }

    public static void main(String[] args) {
        promise25Interval();
        promise26Swap();
        promise27Induce();
        promise28Told();
        promises29To32();
        promise33Apart();
        Check.end("ExchangeTest");
    }
}
