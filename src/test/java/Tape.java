/** Texts as the numbers that feed() takes. */
final class Tape {
    private Tape() {
    }

    /** Five numbers for each twenty bytes; what the last ones lack is filled with x. */
    static int[][] fives(String text) {
        int[][] all = new int[(text.length() + 19) / 20][5];
        for (int i = 0; i < 20 * all.length; i++) {
            int c = i < text.length() ? text.charAt(i) & 255 : 'x';
            all[i / 20][i % 20 / 4] |= c << 24 - 8 * (i % 4);
        }
        return all;
    }

    /** Puts a text of 400 bytes at most on the tape, and nothing else. */
    static StampQuarrels write(StampQuarrels x, String text) {
        x.end(0);
        for (int[] f : fives(text)) x.feed(f[0], f[1], f[2], f[3], f[4]);
        x.end(text.length());
        return x;
    }
}
