/** Promises 25 to 33: each sentence that names a boundary case of the EXCHANGE. */
public final class ExchangeEdgesTest {
    private static final int LEAST = Integer.MIN_VALUE;
    private static final int MOST = Integer.MAX_VALUE;
    private static final int[] NO_LENGTH = {0, 51, -1, -50, 52, 100, 256, 257, 65536, 65537, LEAST, LEAST + 1, MOST};

    private interface PointCall {
        int ask(Billiardry exchange, int point);
    }

    /** The calls of promises 29 to 31. */
    private static final PointCall[] POINTS = {Billiardry::image, Billiardry::back, Billiardry::cycle};

    private ExchangeEdgesTest() {
    }

    static void tell(Edges edges) {
        tellInterval(edges);
        tellSwap(edges);
        tellInduceRefused(edges);
        tellInduce(edges);
        tellTold(edges);
        tellPoints(edges);
        tellImages(edges);
        tellCycles(edges);
        tellApart(edges);
    }

    /** No place of so many, and no POINT; some would be one, if they were cut off or wrapped around. */
    private static int[] noneOf(int places) {
        return new int[] {-1, places, places + 1, -places - 1, 65536, -65536, LEAST, LEAST + 1, MOST};
    }

    private static Billiardry below(int[] lengths, int... order) {
        return Make.layBelow(Make.intervals(lengths), order);
    }

    private static void told(String name, Billiardry exchange, int what, int... due) {
        for (int place = 0; place < due.length; place++) {
            Check.same(name + ": told(" + place + ", " + what + ")", exchange.told(place, what), due[place]);
        }
        Check.index(name + ": no such place", () -> exchange.told(due.length, what));
    }

    private static int sum(Billiardry exchange, int intervals) {
        int sum = 0;
        for (int place = 0; place < intervals; place++) {
            sum += exchange.told(place, 2);
        }
        return sum;
    }

    // ---- promise 25

    private static void tellInterval(Edges edges) {
        edges.of(25, "Adds an INTERVAL.", ExchangeEdgesTest::oneMore);
        edges.of(25, "- `length`: 1 to 50", ExchangeEdgesTest::oneToFifty);
        edges.of(25, "Returns its number.", ExchangeEdgesTest::refusedOnesTakeNoNumber);
        edges.of(25, "INTERVALS are numbered from 0, at most 6", ExchangeEdgesTest::numberedAtMost6);
        edges.of(25, "each with a LENGTH, 1 to 50 as it is told", ExchangeEdgesTest::lengthAsTold);
        edges.of(25, "They lie in two orders, ABOVE and BELOW, one behind the other from 0 on; a new one is the last"
            + " one in both.", ExchangeEdgesTest::lastInBoth);
        edges.of(25, "Throws `IllegalArgumentException` if length is out of range", ExchangeEdgesTest::lengthRefused);
        edges.of(25, "Throws `IllegalStateException` if there are 6", ExchangeEdgesTest::refusedWith6);
        edges.of(25, "If several apply, the one that is named first in the throws clause is thrown.",
            ExchangeEdgesTest::lengthBefore6);
        edges.of(25, "A call that throws an exception changes nothing.", ExchangeEdgesTest::refusedOnesAddNothing);
    }

    private static void oneMore() {
        Billiardry exchange = new Billiardry();
        for (int number = 0; number < 6; number++) {
            int place = number;
            Check.index("before", () -> exchange.told(place, 0));
            exchange.interval(10 + number);
            Check.same("then", exchange.told(place, 0), number);
            Check.same("its LENGTH", exchange.told(place, 2), 10 + number);
        }
    }

    private static void oneToFifty() {
        for (int length = 1; length <= 50; length++) {
            Billiardry exchange = new Billiardry();
            Check.same("LENGTH " + length, exchange.interval(length), 0);
            Check.same("LENGTH told", exchange.told(0, 2), length);
            Check.same("POINTS", exchange.cycles(), length);
        }
        Behind.argument("LENGTH 0", b -> b.interval(0));
        Behind.argument("LENGTH 51", b -> b.interval(51));
    }

    private static void refusedOnesTakeNoNumber() {
        Billiardry exchange = new Billiardry();
        for (int number = 0; number < 6; number++) {
            Check.argument("LENGTH 0", () -> exchange.interval(0));
            Check.same("behind a refused one", exchange.interval(number + 1), number);
            Check.argument("LENGTH 51", () -> exchange.interval(51));
        }
        Check.standing("the seventh", () -> exchange.interval(1));
    }

    private static void numberedAtMost6() {
        Billiardry exchange = new Billiardry();
        for (int number = 0; number < 6; number++) {
            Check.same("INTERVAL", exchange.interval(50), number);
        }
        for (int more = 6; more < 20; more++) {
            Check.standing("one more", () -> exchange.interval(50));
        }
        Check.same("POINTS of six", exchange.cycles(), 300);
        told("six", exchange, 0, 0, 1, 2, 3, 4, 5);
    }

    private static void lengthAsTold() {
        told("six LENGTHS", Make.intervals(1, 50, 2, 49, 25, 1), 2, 1, 50, 2, 49, 25, 1);
    }

    private static void lastInBoth() {
        Billiardry exchange = Make.intervals(9, 5);
        exchange.swap(0, 1);
        exchange.interval(3);
        told("ABOVE", exchange, 0, 0, 1, 2);
        told("BELOW, behind a swap", exchange, 1, 1, 0, 2);
        exchange.swap(0, 2);
        exchange.induce();
        told("ABOVE, induced", exchange, 0, 0, 1, 2);
        exchange.swap(1, 2);
        exchange.induce();
        exchange.interval(50);
        told("ABOVE, behind a step", exchange, 0, 0, 2, 1, 3);
        Check.same("BELOW, behind a step", exchange.told(3, 1), 3);
        Check.same("the last POINT stays", exchange.image(sum(exchange, 4) - 1), sum(exchange, 4) - 1);
    }

    private static void lengthRefused() {
        for (int length : NO_LENGTH) {
            Behind.argument("interval(" + length + ")", b -> b.interval(length), Make::bare, Make::some);
        }
    }

    private static void refusedWith6() {
        Behind.standing("interval(1)", b -> b.interval(1), Make::full);
        Behind.standing("interval(50)", b -> b.interval(50), Make::full);
    }

    private static void lengthBefore6() {
        for (int length : NO_LENGTH) {
            Behind.argument("six INTERVALS, interval(" + length + ")", b -> b.interval(length), Make::full);
        }
    }

    private static void refusedOnesAddNothing() {
        Billiardry exchange = Make.intervals(4, 4);
        Check.argument("interval(0)", () -> exchange.interval(0));
        Check.argument("interval(51)", () -> exchange.interval(51));
        told("two still", exchange, 0, 0, 1);
        Check.index("no POINT more", () -> exchange.image(8));
        Billiardry full = Make.intervals(1, 1, 1, 1, 1, 1);
        Check.standing("the seventh", () -> full.interval(50));
        told("six still", full, 2, 1, 1, 1, 1, 1, 1);
        Check.index("no POINT more of six", () -> full.image(6));
    }

    // ---- promise 26

    private static void tellSwap(Edges edges) {
        edges.of(26, "Exchanges the INTERVALS at two places of the order BELOW.", ExchangeEdgesTest::exchangesBelow);
        edges.of(26, "- `place`: from 0 on", ExchangeEdgesTest::firstToLastPlace);
        edges.of(26, "- `other`: from 0 on", ExchangeEdgesTest::firstToLastOther);
        edges.of(26, "both can be the same", ExchangeEdgesTest::bothTheSame);
        edges.of(26, "Returns the INTERVAL at the first place then.", ExchangeEdgesTest::atTheFirstPlaceThen);
        edges.of(26, "Throws `IndexOutOfBoundsException` if there is no such place, of either",
            ExchangeEdgesTest::swapRefused);
        edges.of(26, "A call that throws an exception changes nothing.", ExchangeEdgesTest::swapRefusedChangesNothing);
    }

    private static void exchangesBelow() {
        Billiardry exchange = Make.intervals(1, 2, 3, 4, 5, 6);
        exchange.swap(0, 5);
        told("the first and the last", exchange, 1, 5, 1, 2, 3, 4, 0);
        exchange.swap(4, 3);
        told("two beside each other", exchange, 1, 5, 1, 2, 4, 3, 0);
        exchange.swap(5, 0);
        told("back again", exchange, 1, 0, 1, 2, 4, 3, 5);
        told("ABOVE stays", exchange, 0, 0, 1, 2, 3, 4, 5);
        told("LENGTHS stay", exchange, 2, 1, 2, 3, 4, 5, 6);
    }

    private static void firstToLastPlace() {
        for (int place = 0; place < 6; place++) {
            Check.same("place " + place, Make.intervals(1, 2, 3, 4, 5, 6).swap(place, 3), 3);
        }
        Behind.index("place -1", b -> b.swap(-1, 0));
        Behind.index("place 6 of 6", b -> b.swap(6, 0), Make::full);
        Behind.index("place 0 of none", b -> b.swap(0, 0), Make::bare);
    }

    private static void firstToLastOther() {
        for (int other = 0; other < 6; other++) {
            Check.same("other " + other, Make.intervals(1, 2, 3, 4, 5, 6).swap(2, other), other);
        }
        Behind.index("other -1", b -> b.swap(0, -1));
        Behind.index("other 6 of 6", b -> b.swap(0, 6), Make::full);
        Behind.index("other 2 of 2", b -> b.swap(0, 2), Make::some);
    }

    private static void bothTheSame() {
        Billiardry exchange = below(new int[] {1, 2, 3, 4, 5, 6}, 4, 2, 0, 5, 3, 1);
        int[] order = {4, 2, 0, 5, 3, 1};
        for (int place = 0; place < 6; place++) {
            Check.same("swap with itself", exchange.swap(place, place), order[place]);
        }
        told("nothing has changed", exchange, 1, order);
        Check.same("one INTERVAL alone", Make.intervals(50).swap(0, 0), 0);
    }

    private static void atTheFirstPlaceThen() {
        Billiardry exchange = Make.intervals(1, 2, 3, 4, 5, 6);
        Check.same("swap(1, 4)", exchange.swap(1, 4), 4);
        Check.same("swap(4, 5)", exchange.swap(4, 5), 5);
        Check.same("swap(5, 1)", exchange.swap(5, 1), 4);
        Check.same("swap(1, 5)", exchange.swap(1, 5), 4);
    }

    private static void swapRefused() {
        for (int none : noneOf(0)) {
            Behind.index("swap(" + none + ", itself) of none", b -> b.swap(none, none), Make::bare);
        }
        for (int none : noneOf(2)) {
            Behind.index("swap(" + none + ", 1) of 2", b -> b.swap(none, 1), Make::some);
            Behind.index("swap(1, " + none + ") of 2", b -> b.swap(1, none), Make::some);
            Behind.index("swap(" + none + ", itself) of 2", b -> b.swap(none, none), Make::some);
        }
        for (int none : noneOf(6)) {
            Behind.index("swap(" + none + ", 5) of 6", b -> b.swap(none, 5), Make::full);
            Behind.index("swap(5, " + none + ") of 6", b -> b.swap(5, none), Make::full);
        }
    }

    /** A place that is not there yet must not be laid before its INTERVAL comes. */
    private static void swapRefusedChangesNothing() {
        Billiardry exchange = Make.intervals(1, 2);
        Check.index("swap(2, 0)", () -> exchange.swap(2, 0));
        Check.index("swap(1, 2)", () -> exchange.swap(1, 2));
        exchange.interval(3);
        told("BELOW", exchange, 1, 0, 1, 2);
        Check.same("swap(2, 0) of 3", exchange.swap(2, 0), 0);
    }

    // ---- promise 27

    private static void tellInduceRefused(Edges edges) {
        edges.of(27, "Throws `IllegalStateException` if there are no INTERVALS",
            () -> Behind.standing("no INTERVALS", Billiardry::induce, Make::bare));
        edges.of(27, "A is B", ExchangeEdgesTest::refusedIfAIsB);
        edges.of(27, "they have the same LENGTH", ExchangeEdgesTest::refusedIfAsLong);
        edges.of(27, "A call that throws an exception changes nothing.", ExchangeEdgesTest::refusedStepsChangeNothing);
    }

    private static void refusedIfAIsB() {
        Behind.standing("one INTERVAL", Billiardry::induce, () -> Make.intervals(50));
        Behind.standing("two, as they came", Billiardry::induce, () -> Make.intervals(7, 3));
        Behind.standing("six, as they came", Billiardry::induce, () -> Make.intervals(1, 2, 3, 4, 5, 6));
        Behind.standing("six, the last one stays", Billiardry::induce,
            () -> below(new int[] {1, 2, 3, 4, 5, 6}, 4, 3, 2, 1, 0, 5));
    }

    private static void refusedIfAsLong() {
        Behind.standing("two of 1", Billiardry::induce, () -> below(new int[] {1, 1}, 1, 0));
        Behind.standing("two of 50", Billiardry::induce, () -> below(new int[] {50, 50}, 1, 0));
        Behind.standing("six", Billiardry::induce, Make::full);
        Behind.standing("as long by a step", Billiardry::induce, () -> {
            Billiardry exchange = below(new int[] {6, 3}, 1, 0);
            exchange.induce();
            return exchange;
        });
    }

    private static void refusedStepsChangeNothing() {
        Billiardry exchange = below(new int[] {4, 9, 4}, 1, 2, 0);
        for (int k = 0; k < 3; k++) {
            Check.standing("the same LENGTH", exchange::induce);
        }
        told("ABOVE", exchange, 0, 0, 1, 2);
        told("BELOW", exchange, 1, 1, 2, 0);
        told("LENGTHS", exchange, 2, 4, 9, 4);
    }

    private static void tellInduce(Edges edges) {
        edges.of(27, "To induce is, if the last INTERVAL ABOVE, A, and the last one BELOW, B, are unlike and have"
            + " unlike LENGTHS", ExchangeEdgesTest::lastAboveAndLastBelow);
        edges.of(27, "if A is longer, A becomes shorter by the LENGTH of B, and B comes to lie directly behind A in the"
            + " order BELOW", ExchangeEdgesTest::aIsLonger);
        edges.of(27, "otherwise B becomes shorter by the LENGTH of A, and A comes to lie directly behind B in the order"
            + " ABOVE", ExchangeEdgesTest::bIsLonger);
        edges.of(27, "All others stay in their order", ExchangeEdgesTest::othersStay);
        edges.of(27, "what lies there already stays", ExchangeEdgesTest::liesThereAlready);
        edges.of(27, "Induces.", ExchangeEdgesTest::againUntilAsLong);
        edges.of(27, "Returns the sum of all LENGTHS then.", ExchangeEdgesTest::sumThen);
    }

    private static void lastAboveAndLastBelow() {
        Billiardry least = below(new int[] {1, 2}, 1, 0);
        Check.same("unlike by 1", least.induce(), 2);
        told("the LENGTH 1 is left", least, 2, 1, 1);
        Billiardry most = below(new int[] {50, 49}, 1, 0);
        Check.same("unlike by 1, the most", most.induce(), 50);
        told("the LENGTH 1 is left", most, 2, 1, 49);
        Billiardry six = below(new int[] {1, 50, 50, 50, 50, 50}, 5, 1, 2, 3, 4, 0);
        Check.same("of six", six.induce(), 250);
        told("of six: LENGTHS", six, 2, 1, 50, 50, 50, 50, 49);
    }

    private static void aIsLonger() {
        Billiardry first = below(new int[] {2, 3, 4, 9}, 3, 2, 1, 0);
        Check.same("A is the first BELOW", first.induce(), 16);
        told("A is the first: BELOW", first, 1, 3, 0, 2, 1);
        told("A is the first: ABOVE stays", first, 0, 0, 1, 2, 3);
        told("A is the first: LENGTHS", first, 2, 2, 3, 4, 7);
        Billiardry middle = below(new int[] {2, 3, 4, 9}, 2, 3, 0, 1);
        Check.same("A is in the middle BELOW", middle.induce(), 15);
        told("A is in the middle: BELOW", middle, 1, 2, 3, 1, 0);
        told("A is in the middle: LENGTHS", middle, 2, 2, 3, 4, 6);
    }

    private static void bIsLonger() {
        Billiardry first = below(new int[] {9, 3, 4, 2}, 3, 2, 1, 0);
        Check.same("B is the first ABOVE", first.induce(), 16);
        told("B is the first: ABOVE", first, 0, 0, 3, 1, 2);
        told("B is the first: BELOW stays", first, 1, 3, 2, 1, 0);
        told("B is the first: LENGTHS", first, 2, 7, 2, 3, 4);
        Billiardry middle = below(new int[] {3, 9, 4, 2}, 3, 2, 0, 1);
        Check.same("B is in the middle ABOVE", middle.induce(), 16);
        told("B is in the middle: ABOVE", middle, 0, 0, 1, 3, 2);
        told("B is in the middle: LENGTHS", middle, 2, 3, 7, 2, 4);
    }

    private static void othersStay() {
        Billiardry aLonger = below(new int[] {1, 2, 3, 4, 5, 9}, 4, 5, 3, 1, 0, 2);
        aLonger.induce();
        told("A is longer: BELOW", aLonger, 1, 4, 5, 2, 3, 1, 0);
        told("A is longer: ABOVE", aLonger, 0, 0, 1, 2, 3, 4, 5);
        Billiardry bLonger = below(new int[] {1, 9, 3, 4, 5, 2}, 4, 5, 3, 0, 2, 1);
        bLonger.induce();
        told("B is longer: ABOVE", bLonger, 0, 0, 1, 5, 2, 3, 4);
        told("B is longer: BELOW", bLonger, 1, 4, 5, 3, 0, 2, 1);
    }

    private static void liesThereAlready() {
        Billiardry behindA = below(new int[] {1, 2, 3, 9}, 1, 2, 3, 0);
        behindA.induce();
        told("B behind A already: BELOW", behindA, 1, 1, 2, 3, 0);
        told("B behind A already: LENGTHS", behindA, 2, 1, 2, 3, 8);
        Billiardry behindB = below(new int[] {1, 2, 9, 3}, 3, 0, 1, 2);
        behindB.induce();
        told("A behind B already: ABOVE", behindB, 0, 0, 1, 2, 3);
        told("A behind B already: LENGTHS", behindB, 2, 1, 2, 6, 3);
        Billiardry two = below(new int[] {2, 5}, 1, 0);
        two.induce();
        told("two: ABOVE", two, 0, 0, 1);
        told("two: BELOW", two, 1, 1, 0);
    }

    private static void againUntilAsLong() {
        Billiardry exchange = below(new int[] {50, 1}, 1, 0);
        for (int length = 49; length >= 1; length--) {
            Check.same("sum", exchange.induce(), length + 1);
            told("LENGTHS", exchange, 2, length, 1);
        }
        Check.standing("as long then", exchange::induce);
        Check.same("two POINTS left", exchange.cycle(0), 2);
    }

    private static void sumThen() {
        Billiardry exchange = below(new int[] {50, 47, 43, 41, 37, 31}, 5, 4, 3, 2, 1, 0);
        int sum = 249;
        for (int k = 0; k < 4; k++) {
            int a = exchange.told(5, 2);
            int b = 0;
            for (int place = 0; place < 6; place++) {
                b = exchange.told(place, 0) == exchange.told(5, 1) ? exchange.told(place, 2) : b;
            }
            sum -= Math.min(a, b);
            Check.same("the sum behind " + (k + 1), exchange.induce(), sum);
            Check.same("the sum of what is told", sum(exchange, 6), sum);
        }
    }

    // ---- promise 28

    private static void tellTold(Edges edges) {
        edges.of(28, "Tells of the INTERVALS at a place: 0 the one ABOVE, 1 the one BELOW, 2 the LENGTH of the one"
            + " ABOVE.", ExchangeEdgesTest::toldByPlaces);
        edges.of(28, "- `what`: 0 to 2", ExchangeEdgesTest::whatZeroToTwo);
        edges.of(28, "Throws `IndexOutOfBoundsException` if there is no such place", ExchangeEdgesTest::toldNoPlace);
        edges.of(28, "Throws `IllegalArgumentException` if what is out of range", ExchangeEdgesTest::toldRefused);
        edges.of(28, "If several apply, the one that is named first in the throws clause is thrown.",
            ExchangeEdgesTest::noPlaceBeforeWhat);
        edges.of(28, "questions change nothing",
            () -> Behind.question("told", b -> b.told(1, 2), Make::some, Make::full));
    }

    /** The LENGTH is the one of the INTERVAL ABOVE, neither of the one BELOW nor of the one of that number. */
    private static void toldByPlaces() {
        Billiardry exchange = below(new int[] {9, 5, 3}, 1, 2, 0);
        exchange.induce();
        told("ABOVE", exchange, 0, 0, 2, 1);
        told("BELOW", exchange, 1, 1, 2, 0);
        told("LENGTHS", exchange, 2, 6, 3, 5);
    }

    private static void whatZeroToTwo() {
        Billiardry one = Make.intervals(7);
        Check.same("what 0", one.told(0, 0), 0);
        Check.same("what 1", one.told(0, 1), 0);
        Check.same("what 2", one.told(0, 2), 7);
        Behind.argument("what -1", b -> b.told(0, -1), Make::some, Make::full);
        Behind.argument("what 3", b -> b.told(0, 3), Make::some, Make::full);
    }

    private static void toldNoPlace() {
        for (int what = 0; what <= 2; what++) {
            int asked = what;
            for (int none : noneOf(0)) {
                Behind.index("place " + none + " of none", b -> b.told(none, asked), Make::bare);
            }
            for (int none : noneOf(2)) {
                Behind.index("place " + none + " of 2", b -> b.told(none, asked), Make::some);
            }
            for (int none : noneOf(6)) {
                Behind.index("place " + none + " of 6", b -> b.told(none, asked), Make::full);
            }
        }
    }

    private static void toldRefused() {
        for (int what : new int[] {-1, 3, 4, -2, 256, 65536, LEAST, LEAST + 1, MOST}) {
            Behind.argument("what " + what, b -> b.told(0, what), Make::some);
            Behind.argument("what " + what + " of the last", b -> b.told(5, what), Make::full);
        }
    }

    private static void noPlaceBeforeWhat() {
        Behind.index("place 0 of none, what 3", b -> b.told(0, 3), Make::bare);
        Behind.index("place 2 of 2, what -1", b -> b.told(2, -1), Make::some);
        Behind.index("place -1, what 3", b -> b.told(-1, 3));
        Behind.index("place most, what least", b -> b.told(MOST, LEAST));
    }

    // ---- promises 29 to 31

    private static void tellPoints(Edges edges) {
        for (int k = 0; k < POINTS.length; k++) {
            PointCall call = POINTS[k];
            edges.of(29 + k, "Throws `IndexOutOfBoundsException` if there is no such POINT", () -> noSuchPoint(call));
            edges.of(29 + k, "The POINTS are the whole numbers from 0 on below the sum of all LENGTHS.",
                () -> belowTheSum(call));
            edges.of(29 + k, "questions change nothing",
                () -> Behind.question("a POINT", b -> call.ask(b, 0), Make::some, Make::full));
        }
    }

    private static void noSuchPoint(PointCall call) {
        for (int none : noneOf(0)) {
            Behind.index("POINT " + none + " of none", b -> call.ask(b, none), Make::bare);
        }
        for (int none : noneOf(53)) {
            Behind.index("POINT " + none + " of 53", b -> call.ask(b, none), Make::some);
        }
        for (int none : noneOf(16)) {
            Behind.index("POINT " + none + " of 16", b -> call.ask(b, none), Make::full);
        }
        Billiardry most = Make.intervals(50, 50, 50, 50, 50, 50);
        Check.same("the last of 300", call.ask(most, 299) > 0, true);
        Check.index("POINT 300 of 300", () -> call.ask(most, 300));
    }

    /** The sum becomes more by an INTERVAL, and less by a step. */
    private static void belowTheSum(PointCall call) {
        Billiardry exchange = new Billiardry();
        Check.index("POINT 0 of none", () -> call.ask(exchange, 0));
        exchange.interval(1);
        Check.same("POINT 0 of 1", call.ask(exchange, 0), call == POINTS[2] ? 1 : 0);
        Check.index("POINT 1 of 1", () -> call.ask(exchange, 1));
        exchange.interval(4);
        Check.same("POINT 4 of 5", call.ask(exchange, 4), call == POINTS[2] ? 1 : 4);
        Check.index("POINT 5 of 5", () -> call.ask(exchange, 5));
        exchange.swap(0, 1);
        exchange.induce();
        Check.same("POINT 3 of 4", call.ask(exchange, 3) >= 0, true);
        Check.index("POINT 4 of 4, that was one", () -> call.ask(exchange, 4));
    }

    private static void tellImages(Edges edges) {
        edges.of(29, "Returns the IMAGE of a POINT.", ExchangeEdgesTest::images);
        edges.of(29, "The IMAGE of a POINT, which lies in an INTERVAL ABOVE, lies in the same INTERVAL BELOW, as far"
            + " from its beginning.", ExchangeEdgesTest::asFarFromItsBeginning);
        edges.of(30, "Returns the POINT of which one is the IMAGE.", ExchangeEdgesTest::ofWhichItIsTheImage);
    }

    private static void images() {
        Billiardry exchange = below(new int[] {3, 1, 2}, 2, 0, 1);
        int[] due = {2, 3, 4, 5, 0, 1};
        for (int point = 0; point < 6; point++) {
            Check.same("image " + point, exchange.image(point), due[point]);
            Check.same("one INTERVAL: image " + point, Make.intervals(6).image(point), point);
        }
    }

    /** At the first and the last POINT of each of six INTERVALS. */
    private static void asFarFromItsBeginning() {
        int[] lengths = {50, 1, 2, 49, 1, 50};
        int[] order = {5, 3, 1, 4, 0, 2};
        int[] beginBelow = {101, 99, 151, 50, 100, 0};
        Billiardry exchange = below(lengths, order);
        int begin = 0;
        for (int number = 0; number < 6; number++) {
            int last = lengths[number] - 1;
            Check.same("the first of " + number, exchange.image(begin), beginBelow[number]);
            Check.same("the last of " + number, exchange.image(begin + last), beginBelow[number] + last);
            Check.same("back to the first of " + number, exchange.back(beginBelow[number]), begin);
            Check.same("back to the last of " + number, exchange.back(beginBelow[number] + last), begin + last);
            begin += lengths[number];
        }
    }

    private static void ofWhichItIsTheImage() {
        Billiardry exchange = below(new int[] {5, 9, 2, 7}, 2, 3, 0, 1);
        exchange.induce();
        int points = sum(exchange, 4);
        for (int point = 0; point < points; point++) {
            Check.same("back of the image of " + point, exchange.back(exchange.image(point)), point);
            Check.same("image of the back of " + point, exchange.image(exchange.back(point)), point);
        }
        Check.same("one POINT alone", Make.intervals(1).back(0), 0);
        Check.same("not the image", below(new int[] {3, 1, 2}, 2, 0, 1).back(0), 4);
    }

    // ---- promises 31 and 32

    private static void tellCycles(Edges edges) {
        edges.of(31, "Returns the CYCLE of a POINT.", ExchangeEdgesTest::shortestAndLongestCycles);
        edges.of(31, "The CYCLE of a POINT is how many images of images it takes, 1 at least, until one comes to it"
            + " again.", ExchangeEdgesTest::untilOneComesAgain);
        edges.of(32, "Returns how many unlike cycles of POINTS there are", ExchangeEdgesTest::fewestAndMostCycles);
        edges.of(32, "0 without INTERVALS", () -> Check.same("cycles", new Billiardry().cycles(), 0));
        edges.of(32, "questions change nothing", () -> Behind.question("cycles", Billiardry::cycles));
    }

    private static void shortestAndLongestCycles() {
        Billiardry stays = Make.intervals(50, 50, 50, 50, 50, 50);
        Check.same("the first of 300 that stay", stays.cycle(0), 1);
        Check.same("the last of 300 that stay", stays.cycle(299), 1);
        Check.same("one POINT", Make.intervals(1).cycle(0), 1);
        Billiardry longest = below(new int[] {49, 50, 50, 50, 50, 50}, 1, 2, 3, 4, 5, 0);
        for (int point = 0; point < 299; point += 149) {
            Check.same("all 299 POINTS, from " + point, longest.cycle(point), 299);
        }
        Billiardry some = below(new int[] {1, 2, 3}, 1, 0, 2);
        int[] due = {3, 3, 3, 1, 1, 1};
        for (int point = 0; point < 6; point++) {
            Check.same("some stay, POINT " + point, some.cycle(point), due[point]);
        }
    }

    private static void untilOneComesAgain() {
        int[][] orders = {{5, 4, 3, 2, 1, 0}, {3, 0, 4, 1, 5, 2}, {0, 2, 1, 4, 3, 5}};
        for (int[] order : orders) {
            Billiardry exchange = below(new int[] {3, 5, 2, 7, 1, 4}, order);
            for (int start = 0; start < 22; start += 3) {
                int cycle = exchange.cycle(start);
                int point = exchange.image(start);
                int images = 1;
                while (point != start && images < 22) {
                    point = exchange.image(point);
                    images++;
                }
                Check.same("from POINT " + start, cycle, images);
            }
        }
    }

    private static void fewestAndMostCycles() {
        Check.same("one POINT", Make.intervals(1).cycles(), 1);
        Check.same("300 POINTS that stay", Make.intervals(50, 50, 50, 50, 50, 50).cycles(), 300);
        Check.same("all on one", below(new int[] {49, 50, 50, 50, 50, 50}, 1, 2, 3, 4, 5, 0).cycles(), 1);
        Check.same("300 POINTS on fifty", below(new int[] {50, 50, 50, 50, 50, 50}, 1, 2, 3, 4, 5, 0).cycles(), 50);
        Check.same("one of three, three of one", below(new int[] {1, 2, 3}, 1, 0, 2).cycles(), 4);
        Billiardry induced = below(new int[] {50, 1}, 1, 0);
        Check.same("before a step", induced.cycles(), 1);
        induced.induce();
        Check.same("behind a step", induced.cycles(), 1);
    }

    // ---- promise 33

    private static void tellApart(Edges edges) {
        edges.of(33, "Returns the least number, 1 or more, of first INTERVALS ABOVE that are, in whatever order, the"
            + " first ones BELOW", ExchangeEdgesTest::leastToMostApart);
        edges.of(33, "in whatever order", ExchangeEdgesTest::inWhateverOrder);
        edges.of(33, "0 without INTERVALS", () -> Check.same("apart", new Billiardry().apart(), 0));
        edges.of(33, "questions change nothing", () -> Behind.question("apart", Billiardry::apart));
    }

    private static void leastToMostApart() {
        int[] lengths = {1, 2, 3, 4, 5, 6};
        Check.same("one INTERVAL", Make.intervals(50).apart(), 1);
        Check.same("all as they came", Make.intervals(lengths).apart(), 1);
        Check.same("the first one alone", below(lengths, 0, 5, 4, 3, 2, 1).apart(), 1);
        Check.same("two", below(lengths, 1, 0, 2, 3, 4, 5).apart(), 2);
        Check.same("two, then others", below(lengths, 1, 0, 5, 4, 3, 2).apart(), 2);
        Check.same("three", below(lengths, 2, 1, 0, 3, 4, 5).apart(), 3);
        Check.same("four", below(lengths, 3, 0, 1, 2, 5, 4).apart(), 4);
        Check.same("all but the last", below(lengths, 4, 3, 2, 1, 0, 5).apart(), 5);
        Check.same("all", below(lengths, 5, 4, 3, 2, 1, 0).apart(), 6);
        Check.same("all, by a turn", below(lengths, 1, 2, 3, 4, 5, 0).apart(), 6);
        Check.same("two of two", below(new int[] {50, 50}, 1, 0).apart(), 2);
    }

    /** Also ABOVE the order can be another one than that of the numbers. */
    private static void inWhateverOrder() {
        for (int[] order : Make.orders(4)) {
            Billiardry exchange = below(new int[] {9, 5, 3, 1}, order);
            int seen = 0;
            int due = 0;
            for (int place = 0; place < 4 && due == 0; place++) {
                seen |= 1 << order[place];
                due = seen == (2 << place) - 1 ? place + 1 : 0;
            }
            Check.same("apart", exchange.apart(), due);
        }
        Billiardry moved = below(new int[] {9, 5, 3}, 2, 1, 0);
        moved.induce();
        Check.same("0, 2, 1 ABOVE and 2, 1, 0 BELOW", moved.apart(), 3);
        Make.layBelow(moved, 2, 0, 1);
        Check.same("0, 2, 1 ABOVE and 2, 0, 1 BELOW", moved.apart(), 2);
        Make.layBelow(moved, 0, 1, 2);
        Check.same("0, 2, 1 ABOVE and 0, 1, 2 BELOW", moved.apart(), 1);
    }

    public static void main(String[] args) {
        Edges edges = new Edges();
        tell(edges);
        edges.run("ExchangeEdgesTest");
    }
}
