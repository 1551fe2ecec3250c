/** Promises 1 to 10: each sentence that names an edge has a method of its own. */
public final class BlocksEdgesTest {
    private static final int MIN = Integer.MIN_VALUE, MAX = Integer.MAX_VALUE;
    private static final int BAD = -2, NOT = -3, NULL = -11;

    private static void is(String call, long got, long want) {
        Due.is(call, got, want);
    }

    /** 1: "Four BLOCKS, all DATA 0, nothing WRONG, RULE 0, THE JOURNAL is empty; all SHEETS are LOST" */
    private static void newOnesAreEmpty() {
        StairCodes x = new StairCodes();
        is("1: no FINDING", x.count(8), 0);
        is("1: undo", x.undo(), NOT);
        is("1: back", x.back(), 0);
        is("1: settle", x.settle(), 0);
        is("1: journal", x.journal(0), BAD);
        is("1: stall", x.stall(0), BAD);
        is("1: piece", x.piece(0, 0), BAD);
        is("1: turn", x.turn(1, 4), 0);
        is("1: window", x.window(1, 4, 9), 0);
        is("1: slide", x.slide(4, 9), 0);
        is("1: RULE", x.rule(1), 0);
        for (int s = 0; s < 4; s++) {
            is("1: SHEET " + s, x.get(s, 0), Long.MIN_VALUE + 11);
        }
        StairCodes other = new StairCodes();
        is("1: another object's RULE", other.rule(0), 0);
        is("1: another object's FINDING", other.count(8), 0);
    }

    /** 2: "New BLOCKS, K of them, all DATA 0, nothing WRONG or HIT, THE JOURNAL is empty" */
    private static void blocksOfLikeNumberAreNew() {
        StairCodes x = new StairCodes();
        x.data(4, 7, 7);
        x.lots(1, 256);
        x.flip(4, 0, 0);
        x.mend(4, 0);
        x.turn(1, 4);
        is("2: K was 4, too", x.blocks(4), 4);
        is("2: like a new one", x.digest(), new StairCodes().digest());
        is("2: DATA", x.row(4, 7, 3), 0);
        is("2: THE JOURNAL", x.undo(), NOT);
        for (int place = 0; place < 64; place++) {
            is("2: not HIT", x.bit(1, place / 8, place % 8, 3) + x.bit(4, place / 8, place % 8, 3), 0);
        }
    }

    /** 2: fewer BLOCKS, then more: nothing is left of those that were there. */
    private static void blocksComeBackEmpty() {
        for (int few = 2; few <= 5; few++) {
            StairCodes x = new StairCodes();
            x.blocks(6);
            for (int i = 1; i <= 6; i++) {
                x.data(i, i, 7);
            }
            x.lots(5, 128);
            x.blocks(few);
            x.blocks(6);
            StairCodes fresh = new StairCodes();
            fresh.blocks(6);
            is("2: " + few + " and 6: K", x.count(0), 6);
            Look.alike("2: " + few + " and 6", x, fresh, 0);
        }
    }

    /** 2: "what K was. BAD." */
    private static void blocksTellWhatWas() {
        StairCodes x = new StairCodes();
        is("2: 2", x.blocks(2), 4);
        is("2: 6", x.blocks(6), 2);
        for (int k : new int[] {1, 7, 0, -4, MIN, MAX}) {
            is("2: " + k, x.blocks(k), BAD);
            is("2: K stays", x.count(0), 6);
        }
        is("2: 3", x.blocks(3), 6);
    }

    /** 3: DATA of the first and the last ROW of the first and the last BLOCK. */
    private static void dataAtTheEnds() {
        for (int k = 2; k <= 6; k++) {
            StairCodes x = new StairCodes();
            x.blocks(k);
            int[][] ends = {{1, 0}, {1, 7}, {k, 0}, {k, 7}};
            for (int[] at : ends) {
                is("3: 7", x.data(at[0], at[1], 7), 0);
                is("3: told", x.row(at[0], at[1], 3), 7);
                is("3: NOW", x.row(at[0], at[1], 2), 7);
            }
            for (int[] at : ends) {
                is("3: others stay", x.data(at[0], at[1], 0), 7);
            }
            is("3: BLOCK K is all 0 again", x.block(k), 0);
            is("3: of BLOCK K and 1", x.data(k + 1, 0, 1), BAD);
            is("3: of BLOCK 0", x.data(0, 0, 1), BAD);
        }
    }

    /** 3: "the others so that all WORDS are SOUND": BLOCKS behind a change follow it, those ahead stay. */
    private static void dataReachLaterBlocks() {
        StairCodes x = new StairCodes();
        x.blocks(6);
        x.data(3, 0, 1);
        is("3: BLOCK 1", x.block(1), 0);
        is("3: BLOCK 2", x.block(2), 0);
        // COLUMN 0; LABEL 3: COLUMNS 4 and 5; three are odd: COLUMN 3
        is("3: its ROW", x.row(3, 0, 0), 0b00111001);
        is("3: its BLOCK", x.block(3), 0b00111001);
        // WORDS 4, 0; 4, 3; 4, 4; 4, 5 have PLACE 0, of LABEL 7: COLUMNS 4, 5, 6; four are even
        for (int r = 0; r < 8; r++) {
            boolean reached = r == 0 || r >= 3 && r <= 5;
            is("3: BLOCK 4, ROW " + r, x.row(4, r, 0), reached ? 0b01110000 : 0);
        }
        is("3: nothing is WRONG", x.count(1), 0);
        is("3: all are SOUND", x.count(2), 0);
    }

    /** 4: "A BIT is turned: how many are WRONG" */
    private static void flipTellsHowManyAreWrong() {
        StairCodes x = new StairCodes();
        is("4: all", x.lots(1, 256), 256);
        is("4: one is right again", x.flip(1, 0, 0), 255);
        is("4: the last one, too", x.flip(4, 7, 7), 254);
        is("4: WRONG again", x.flip(1, 0, 0), 255);
        is("4: ROW 8", x.flip(1, 8, 0), BAD);
        is("4: COLUMN 8", x.flip(1, 0, 8), BAD);
        is("4: BLOCK 0", x.flip(0, 0, 0), BAD);
        is("4: as it was", x.count(1), 255);
    }

    /** 5: "LOTS .. less than n (0 to 256)" */
    private static void lotsFromNoneToAll() {
        for (int k = 2; k <= 6; k++) {
            StairCodes x = new StairCodes();
            x.blocks(k);
            is("5: 0", x.lots(MAX, 0), 0);
            is("5: none WRONG", x.count(1), 0);
            is("5: 256", x.lots(MIN, 256), 64 * k);
            is("5: all WRONG", x.count(1), 64 * k);
            is("5: -1", x.lots(1, -1), BAD);
            is("5: 257", x.lots(1, 257), BAD);
            is("5: all still", x.count(1), 64 * k);
        }
    }

    /** 5: "SEED becomes .., as ints that wrap; its upper 16 bits as a number from 0 on, modulo 256" */
    private static void lotsOfSeedsThatWrap() {
        int[] seeds = {0, 1, -1, MIN, MAX, MIN + 1, 0x40000000, 12345, -987654321};
        int[] limits = {1, 2, 127, 128, 129, 254, 255};
        for (int seed : seeds) {
            for (int n : limits) {
                StairCodes x = new StairCodes();
                int turned = x.lots(seed, n);
                is("5: seed " + seed + ", n " + n, turned, compareLots(x, seed, n));
            }
        }
    }

    private static int compareLots(StairCodes x, int seed, int n) {
        long state = seed & 0xFFFFFFFFL;
        int turned = 0;
        for (int b = 0; b < 256; b++) {
            state = (state * 1103515245L + 12345L) & 0xFFFFFFFFL;
            boolean isTurned = state / 65536 % 256 < n;
            turned += isTurned ? 1 : 0;
            String at = "5: seed " + seed + ", n " + n + ", BIT " + b;
            is(at, x.bit(1 + b / 64, b / 8 % 8, b % 8, 0), isTurned ? 1 : 0);
        }
        return turned;
    }

    /** 6: "as far as there are items" */
    private static void readEndsWithTheItems() {
        for (int size : new int[] {0, 1, 7, 8, 9, 63, 64}) {
            for (int form = 0; form < 3; form++) {
                StairCodes x = new StairCodes();
                x.sheet(3, form, size);
                for (int n = 0; n < size; n++) {
                    x.put(3, form, n, 1);
                }
                is("6: " + size + " items of FORM " + form, x.read(4, 3), size);
                is("6: BLOCK 4", x.block(4), size == 64 ? -1L : (1L << size) - 1);
                is("6: WRONG", x.count(1), size);
                is("6: BLOCK 3", x.block(3), 0);
            }
        }
    }

    /** 6: "if item 8 r and c is not 0 (false)" */
    private static void readTurnsWhatIsNotZero() {
        StairCodes x = new StairCodes();
        x.sheet(0, 2, 5);
        int[] items = {MIN, -1, 0, 2, MAX};
        for (int n = 0; n < 5; n++) {
            x.put(0, 2, n, items[n]);
        }
        is("6: ints", x.read(1, 0), 4);
        is("6: all but the third", x.block(1), 0b11011);
        // a long whose lower half is 0 is not 0
        x.blocks(4);
        x.flip(2, 5, 0);
        x.sheet(1, 1, 2);
        x.write(2, 1);
        is("6: the item", x.get(1, 0), 1L << 40);
        is("6: longs", x.read(3, 1), 1);
        is("6: BIT 0", x.block(3), 1);
        x.sheet(2, 0, 2);
        x.put(2, 0, 0, 2);
        x.put(2, 0, 1, -1);
        is("6: truths", x.read(1, 2), 1);
        is("6: the odd one", x.block(1), 2);
    }

    /** 6: "how many BITS are turned": those turned back count, too. */
    private static void readTellsTurnedOnes() {
        StairCodes x = new StairCodes();
        x.sheet(0, 0, 3);
        x.put(0, 0, 0, 1);
        x.put(0, 0, 2, 1);
        x.flip(1, 0, 0);
        is("6: two are turned", x.read(1, 0), 2);
        is("6: one is WRONG", x.count(1), 1);
        is("6: the SHEET stays", x.get(0, 2), 1);
        is("6: LOST", x.read(1, 1), NULL);
        is("6: BLOCK 5 of a LOST one", x.read(5, 1), BAD);
        is("6: SHEET 4 to BLOCK 0", x.read(0, 4), BAD);
        is("6: FINDING", x.count(8), 1);
    }

    /** 7: "RULE: what it was. BAD." */
    private static void rulesAreTwo() {
        StairCodes x = new StairCodes();
        is("7: 2", x.rule(2), BAD);
        is("7: -1", x.rule(-1), BAD);
        is("7: 1", x.rule(1), 0);
        is("7: 2 again", x.rule(2), BAD);
        is("7: 0", x.rule(0), 1);
        is("7: 0 again", x.rule(0), 0);
    }

    /** 8: "how often it is in THE JOURNAL": up to 60 times, and no more when it left it. */
    private static void bitTellsItsMends() {
        StairCodes x = new StairCodes();
        for (int n = 1; n <= 61; n++) {
            x.flip(4, 7, 7);
            x.mend(4, 7);
            is("8: " + n + " times", x.bit(4, 7, 7, 4), Math.min(n, 60));
        }
        x.flip(1, 0, 0);
        x.mend(1, 0);
        is("8: another came", x.bit(1, 0, 0, 4), 1);
        is("8: one left", x.bit(4, 7, 7, 4), 59);
        x.undo();
        x.undo();
        is("8: taken back", x.bit(1, 0, 0, 4), 0);
        is("8: the latest of these, too", x.bit(4, 7, 7, 4), 58);
        x.settle();
        is("8: none", x.bit(4, 7, 7, 4), 0);
    }

    /** 8: "what = 0 .. 4", of BITS in the corners of BLOCKS 1 and K. */
    private static void bitAtTheEnds() {
        for (int k = 2; k <= 6; k++) {
            StairCodes x = new StairCodes();
            x.blocks(k);
            int[][] ends = {{1, 0, 0}, {1, 7, 7}, {k, 0, 7}, {k, 7, 0}};
            for (int[] at : ends) {
                x.flip(at[0], at[1], at[2]);
                int[] want = {1, 0, 1, 1, 0};
                for (int what = 0; what <= 4; what++) {
                    is("8: what " + what, x.bit(at[0], at[1], at[2], what), want[what]);
                }
                is("8: what -1", x.bit(at[0], at[1], at[2], -1), BAD);
                is("8: what 5", x.bit(at[0], at[1], at[2], 5), BAD);
            }
            is("8: BLOCK 0", x.bit(0, 0, 0, 0), BAD);
            is("8: BLOCK K and 1", x.bit(k + 1, 0, 0, 0), BAD);
        }
    }

    /** 9: "COLUMN 0 the lowest bit", up to all eight; "DATA NOW" of the first three. */
    private static void rowsAreNumbers() {
        StairCodes x = new StairCodes();
        x.lots(1, 256);
        is("9: all", x.row(4, 7, 0), 255);
        is("9: DATA NOW", x.row(4, 7, 2), 7);
        is("9: SENT", x.row(4, 7, 1), 0);
        is("9: DATA", x.row(4, 7, 3), 0);
        x.flip(4, 7, 0);
        x.flip(4, 7, 7);
        is("9: without the ends", x.row(4, 7, 0), 126);
        is("9: DATA NOW without the lowest", x.row(4, 7, 2), 6);
        is("9: what 4", x.row(4, 7, 4), BAD);
        is("9: what -1", x.row(4, 7, -1), BAD);
        is("9: ROW 8", x.row(4, 8, 0), BAD);
        is("9: ROW -1", x.row(4, -1, 0), BAD);
        is("9: BLOCK 0", x.row(0, 0, 0), BAD);
        is("9: BLOCK 5", x.row(5, 0, 0), BAD);
    }

    /** 10: "BAD: 0 (BLOCK 0, too)": not as other long answers, the least long and 2 more. */
    private static void blockZeroIsNoRefusal() {
        for (int k = 2; k <= 6; k++) {
            StairCodes x = new StairCodes();
            x.blocks(k);
            x.lots(4, 256);
            is("10: BLOCK 1", x.block(1), -1L);
            is("10: BLOCK K", x.block(k), -1L);
            for (int i : new int[] {0, -1, k + 1, 7, MIN, MAX, 1 << 26}) {
                is("10: BLOCK " + i, x.block(i), 0);
            }
        }
        StairCodes x = new StairCodes();
        x.flip(1, 7, 7);
        x.flip(1, 0, 1);
        is("10: a BLOCK may look like a refusal", x.block(1), Long.MIN_VALUE + 2);
    }

    public static void main(String[] args) {
        newOnesAreEmpty();
        blocksOfLikeNumberAreNew();
        blocksComeBackEmpty();
        blocksTellWhatWas();
        dataAtTheEnds();
        dataReachLaterBlocks();
        flipTellsHowManyAreWrong();
        lotsFromNoneToAll();
        lotsOfSeedsThatWrap();
        readEndsWithTheItems();
        readTurnsWhatIsNotZero();
        readTellsTurnedOnes();
        rulesAreTwo();
        bitTellsItsMends();
        bitAtTheEnds();
        rowsAreNumbers();
        blockZeroIsNoRefusal();
        Due.end();
    }
}
