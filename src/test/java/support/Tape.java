/** Puts a text on an object's tape, and makes one of it. */
final class Tape {
    private Tape() {
    }

    /** The five numbers of the bytes from a place on, zeros behind the end. */
    static int[] fives(String source, int from) {
        int[] fives = new int[5];
        for (int i = 0; i < 20; i++) {
            int one = from + i < source.length() ? source.charAt(from + i) & 255 : 0;
            fives[i / 4] |= one << 24 - i % 4 * 8;
        }
        return fives;
    }

    /** Up to 300 bytes, which take 17 calls at most. */
    static void lay(OneLetterWrong x, String source) {
        x.end(0);
        for (int from = 0; from < source.length(); from += 20) {
            int[] f = fives(source, from);
            x.feed(f[0], f[1], f[2], f[3], f[4]);
        }
        x.end(source.length());
    }

    static int read(OneLetterWrong x, String source) {
        lay(x, source);
        return x.text();
    }
}
