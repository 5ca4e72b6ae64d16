import java.nio.charset.StandardCharsets;

/** Cuts a text into the numbers that feed() takes. */
final class Tape {
    private Tape() {
    }

    /** Rows of five numbers each. */
    static int[][] rows(String text) {
        byte[] bytes = text.getBytes(StandardCharsets.ISO_8859_1);
        int[][] rows = new int[(bytes.length + 19) / 20][5];
        for (int i = 0; i < bytes.length; i++) {
            rows[i / 20][i % 20 / 4] |= (bytes[i] & 255) << (24 - i % 4 * 8);
        }
        return rows;
    }

    /** Puts a text on the tape, in place of all that it had. */
    static void put(MoonWash moon, String text) {
        moon.end(0);
        for (int[] r : rows(text)) {
            moon.feed(r[0], r[1], r[2], r[3], r[4]);
        }
        moon.end(text.length());
    }
}
