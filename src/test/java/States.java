/** Objects in states that several tests need. */
final class States {
    private States() {
    }

    static StairCodes ofBlocks(int k) {
        StairCodes x = new StairCodes();
        x.blocks(k);
        return x;
    }

    /**
     * Two BLOCKS that never come to rest: WORD 1, 0 turns COLUMN 2, WORD 2, 2 turns it back; its three
     * WRONG ones are each in a STALLED WORD 2, c.
     */
    static StairCodes restless() {
        StairCodes x = ofBlocks(2);
        for (int c : new int[] {0, 1, 3}) {
            x.flip(1, 0, c);
            x.flip(2, c, 0);
        }
        return x;
    }

    /**
     * 47 WRONG BITS, a path through all WORDS of six BLOCKS: 1, 0; 2, 0; 1, 1; 2, 1; and so on to 2, 7;
     * 3, 0; 4, 0; 3, 1; and so on to 6, 7. Its ends alone can be mended: a TURN over all takes two from
     * either end, the first one three in all, so that it is gone behind the twelfth.
     */
    static StairCodes longPath() {
        StairCodes x = ofBlocks(6);
        for (int i = 1; i <= 5; i += 2) {
            for (int r = 0; r < 8; r++) {
                x.flip(i, r, r);
                if (r > 0) {
                    x.flip(i, r, r - 1);
                }
            }
        }
        x.flip(2, 7, 0);
        x.flip(4, 7, 0);
        return x;
    }
}
