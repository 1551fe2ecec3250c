/** AROUND, counted as the document tells it: all sets of four BITS, one by one. */
public final class AroundTest {
    private static int k;

    /** WORDS of a BIT as 8 i + r, the second one of BLOCKS 1 to K less 1, too. */
    private static int firstWord(int bit) {
        return bit / 8;
    }

    private static int secondWord(int bit) {
        return 8 * (bit / 64 + 1) + bit % 8;
    }

    private static boolean noneOrTwo(int a, int b, int c, int d) {
        long once = 0;
        long twice = 0;
        int[] words = {firstWord(a), secondWord(a), firstWord(b), secondWord(b), firstWord(c), secondWord(c), firstWord(d), secondWord(d)};
        for (int w : words) {
            if ((twice >> w & 1) != 0) {
                return false;
            }
            twice |= once & 1L << w;
            once |= 1L << w;
        }
        return once == twice;
    }

    private static boolean haveCommonWord(int a, int b) {
        return firstWord(a) == firstWord(b) || secondWord(a) == secondWord(b)
            || firstWord(a) == secondWord(b) || secondWord(a) == firstWord(b);
    }

    /** One of the other three has a WORD in common with the BIT, so that this one is looked for first. */
    private static int sets(int bit) {
        int sum = 0;
        for (int b = 64; b < 64 * k; b++) {
            if (b == bit || firstWord(b) != firstWord(bit) && secondWord(b) != firstWord(bit)) {
                continue;
            }
            for (int c = 64; c < 64 * k; c++) {
                for (int d = 64; d < c; d++) {
                    boolean four = c != bit && c != b && d != bit && d != b;
                    if (four && haveCommonWord(c, d) && noneOrTwo(bit, b, c, d)) {
                        sum++;
                    }
                }
            }
        }
        return sum;
    }

    public static void main(String[] args) {
        StairCodes x = new StairCodes();
        for (k = 2; k <= 6; k++) {
            x.blocks(k);
            for (int i = 1; i < k; i++) {
                int r = (3 * i + k) % 8;
                int c = (5 * i + 2 * k) % 8;
                Due.is("K " + k + ": around " + i + " " + r + " " + c, x.around(i, r, c), sets(64 * i + 8 * r + c));
            }
            Due.is("K " + k + ": around of BLOCK K", x.around(k, 0, 0), 0);
        }
        Due.end();
    }
}
