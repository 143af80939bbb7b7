import java.util.List;
import java.util.ArrayList;

/** A call that throws changes nothing, and no question changes anything. */
public final class NothingChangedTest {
    private static final int LEAST = Integer.MIN_VALUE;
    private static final int MOST = Integer.MAX_VALUE;

    private interface Maker {
        Billiardry make();
    }

    private interface Use {
        void of(Billiardry asked);
    }

    private NothingChangedTest() {
    }

    private static Billiardry bare() {
        return new Billiardry();
    }

    /** Six lamps, one in a BLOCK; a SURFACE of two PIECES; six INTERVALS, the last ones alike in LENGTH. */
    private static Billiardry full() {
        Billiardry asked = new Billiardry();
        for (int k = 0; k < 5; k++) {
            asked.block(k, 2 * k % 8, true);
            asked.block(7 - k, 5, true);
            asked.lamp(7, k);
        }
        asked.lamp(1, 2);
        asked.surface(5);
        asked.glue(0, 1, false);
        asked.glue(1, 2, true);
        asked.glue(3, 4, true);
        for (int k = 0; k < 6; k++) {
            asked.interval(k == 5 ? 1 : k + 1);
        }
        asked.swap(0, 5);
        return asked;
    }

    private static String snapshot(Billiardry asked) {
        StringBuilder text = new StringBuilder();
        text.append(asked.paths()).append(' ').append(asked.mean()).append(' ');
        text.append(asked.lit()).append(' ').append(asked.share()).append(' ');
        for (int cell = 0; cell < 64; cell++) {
            text.append(asked.sees(cell % 8, cell / 8, cell % 8, cell / 8) ? '.' : '#');
        }
        for (int square = 0; square < asked.count(0); square++) {
            text.append(' ').append(asked.square(square, 0)).append(asked.square(square, 1));
        }
        text.append(' ').append(asked.code()).append(' ').append(asked.kin());
        text.append(' ').append(asked.cycles()).append(' ').append(asked.apart());
        for (int place = 0; place < asked.apart(); place++) {
            for (int what = 0; what < 3; what++) {
                text.append(' ').append(asked.told(place, what));
            }
        }
        return text.toString();
    }

    private static boolean doesThrow(Billiardry asked, Use use) {
        try {
            use.of(asked);
            return false;
        } catch (IndexOutOfBoundsException | IllegalArgumentException | IllegalStateException e) {
            return true;
        }
    }

    private static void changesNothing(String name, Maker maker, Use use, boolean throwsIt) {
        Billiardry asked = maker.make();
        String before = snapshot(asked);
        Check.same(name + " throws", doesThrow(asked, use), throwsIt);
        Check.sameText(name + " leaves all as it was", snapshot(asked), before);
    }

    private static List<Use> wrongOnAny() {
        List<Use> wrong = new ArrayList<>();
        for (int odd : new int[] {-1, 8, LEAST, MOST}) {
            wrong.add(b -> b.block(odd, 0, true));
            wrong.add(b -> b.block(0, odd, true));
            wrong.add(b -> b.lamp(odd, 0));
            wrong.add(b -> b.lamp(0, odd));
            wrong.add(b -> b.period(odd, 0, 0, true));
            wrong.add(b -> b.bounce(7, 7, 0, true, odd == 8 ? 100001 : odd));
            wrong.add(b -> b.sees(odd, 0, 0, 0));
            wrong.add(b -> b.surface(odd));
            wrong.add(b -> b.glue(odd, 0, true));
            wrong.add(b -> b.glue(0, odd, false));
            wrong.add(b -> b.square(0, odd));
            wrong.add(b -> b.count(odd));
            wrong.add(b -> b.interval(odd == 8 ? 51 : odd));
            wrong.add(b -> b.swap(odd, 0));
            wrong.add(b -> b.swap(0, odd));
            wrong.add(b -> b.told(0, odd));
            wrong.add(b -> b.image(odd == 8 ? 300 : odd));
            wrong.add(b -> b.back(odd == 8 ? 300 : odd));
            wrong.add(b -> b.cycle(odd == 8 ? 300 : odd));
        }
        wrong.add(b -> b.bounce(7, 7, 0, true, MOST));
        wrong.add(b -> b.state(7, 7, 0, true, -1));
        wrong.add(b -> b.surface(0));
        wrong.add(b -> b.surface(6));
        wrong.add(b -> b.interval(0));
        wrong.add(Billiardry::induce);
        return wrong;
    }

    private static List<Use> wrongOnFull() {
        List<Use> wrong = wrongOnAny();
        wrong.add(b -> b.lamp(0, 0));
        wrong.add(b -> b.interval(1));
        wrong.add(Billiardry::genus);
        wrong.add(b -> b.period(1, 2, 0, true));
        wrong.add(b -> b.periodAnew(1, 2, 0, true));
        wrong.add(b -> b.bounces(1, 2, 0, true));
        wrong.add(b -> b.touched(1, 2, 0, true));
        wrong.add(b -> b.bounce(1, 2, 0, true, 0));
        wrong.add(b -> b.state(1, 2, 0, true, 0));
        wrong.add(b -> b.told(6, 0));
        wrong.add(b -> b.swap(6, 0));
        wrong.add(b -> b.glue(0, 5, true));
        return wrong;
    }

    private static List<Use> questions() {
        List<Use> questions = new ArrayList<>();
        questions.add(b -> b.period(7, 0, 1, true));
        questions.add(b -> b.periodAnew(7, 0, 1, true));
        questions.add(b -> b.bounces(7, 0, 1, true));
        questions.add(b -> b.touched(7, 0, 1, true));
        questions.add(b -> b.bounce(7, 0, 1, true, 100000));
        questions.add(b -> b.state(7, 0, 1, true, MOST));
        questions.add(b -> b.seesAnew(0, 0, 7, 7));
        questions.add(b -> b.square(0, 6));
        questions.add(b -> b.count(4));
        questions.add(b -> b.told(5, 2));
        questions.add(b -> b.image(0));
        questions.add(b -> b.back(0));
        questions.add(b -> b.cycle(0));
        return questions;
    }

    public static void main(String[] args) {
        int number = 0;
        for (Use use : wrongOnAny()) {
            changesNothing("wrong call " + number++ + " on a new object", NothingChangedTest::bare, use, true);
        }
        for (Use use : wrongOnFull()) {
            changesNothing("wrong call " + number++ + " on a full object", NothingChangedTest::full, use, true);
        }
        for (Use use : questions()) {
            changesNothing("question " + number++, NothingChangedTest::full, use, false);
        }
        Check.end("NothingChangedTest");
    }
}
