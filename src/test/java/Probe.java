/**
 * Writes out all that stands in an object, by fewer than 400 of its 512 calls. The object is used up
 * by it: where the lamps are is only seen by laying BLOCKS, and how many there are by adding others.
 */
final class Probe {
    private Probe() {
    }

    static String of(Billiardry asked) {
        StringBuilder text = new StringBuilder();
        askRoom(asked, text);
        askSurface(asked, text);
        askExchange(asked, text);
        findLamps(asked, text);
        fill(asked, text);
        return text.toString();
    }

    private static void askRoom(Billiardry asked, StringBuilder text) {
        text.append("paths ").append(asked.paths()).append(" mean ").append(asked.mean());
        text.append(" lit ").append(asked.lit()).append(" share ").append(asked.share()).append(' ');
        for (int cell = 0; cell < 64; cell++) {
            text.append(asked.sees(cell % 8, cell / 8, cell % 8, cell / 8) ? '.' : '#');
        }
    }

    private static void askSurface(Billiardry asked, StringBuilder text) {
        text.append(" surface");
        for (int square = 0; square < asked.count(0); square++) {
            text.append(' ').append(asked.square(square, 0)).append(asked.square(square, 1));
        }
        text.append(" code ").append(asked.code()).append(" kin ").append(asked.kin());
    }

    private static void askExchange(Billiardry asked, StringBuilder text) {
        text.append(" exchange");
        for (int place = 0; place < 6; place++) {
            try {
                text.append(' ').append(asked.told(place, 0)).append(asked.told(place, 1));
                text.append('-').append(asked.told(place, 2));
            } catch (IndexOutOfBoundsException e) {
                text.append(" none");
            }
        }
        text.append(" cycles ").append(asked.cycles()).append(" apart ").append(asked.apart());
    }

    private static void findLamps(Billiardry asked, StringBuilder text) {
        text.append(" lamps ");
        Make.blockAll(asked);
        for (int cell = 0; cell < 64; cell++) {
            asked.block(cell % 8, cell / 8, false);
            text.append(asked.lit() == 1 ? '*' : '-');
            asked.block(cell % 8, cell / 8, true);
        }
    }

    private static void fill(Billiardry asked, StringBuilder text) {
        text.append(" next");
        try {
            for (int lamp = 0; lamp < 7; lamp++) {
                text.append(' ').append(asked.lamp(0, 0));
            }
        } catch (IllegalStateException e) {
            text.append(" full");
        }
        try {
            for (int interval = 0; interval < 7; interval++) {
                text.append(' ').append(asked.interval(1));
            }
        } catch (IllegalStateException e) {
            text.append(" full");
        }
    }
}
