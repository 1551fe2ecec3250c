import java.util.ArrayList;
import java.util.List;

/** 'What it is' and 'Terms': each sentence that names an edge has a method of its own. */
public final class TermsEdgesTest {
    private static final int BAD = -2, DOUBT = -5;
    private static final int[] LABELS = {7, 9, 10, 11, 12, 13, 14, 15, 3, 5, 6, 0, 1, 2, 4, 8};

    private static void is(String call, long got, long want) {
        Due.is(call, got, want);
    }

    /** "BLOCKS 1 to K (2 to 6; 4 at first)" */
    private static void blocksAreOneToK() {
        StairCodes x = new StairCodes();
        is("4 at first", x.count(0), 4);
        is("BLOCK 4 at first", x.flip(4, 7, 7), 1);
        is("no BLOCK 5 at first", x.flip(5, 0, 0), BAD);
        is("K 1", x.blocks(1), BAD);
        is("K 7", x.blocks(7), BAD);
        int was = 4;
        for (int k = 2; k <= 6; k++) {
            is("K " + k, x.blocks(k), was);
            is("K is " + k, x.count(0), k);
            is("BLOCK 1 of " + k, x.flip(1, 0, 0), 1);
            is("BLOCK K of " + k, x.flip(k, 7, 7), 2);
            is("BLOCK 0 of " + k, x.flip(0, 0, 0), BAD);
            is("BLOCK K and 1 of " + k, x.flip(k + 1, 0, 0), BAD);
            was = k;
        }
    }

    /** "ROWS 0 to 7 of COLUMNS 0 to 7 of BITS" */
    private static void rowsAndColumnsAreZeroToSeven() {
        int[][] corners = {{0, 0}, {0, 7}, {7, 0}, {7, 7}};
        for (int[] at : corners) {
            StairCodes x = new StairCodes();
            is("corner", x.flip(2, at[0], at[1]), 1);
            is("corner NOW", x.bit(2, at[0], at[1], 0), 1);
            is("corner in ROW", x.row(2, at[0], 0), 1 << at[1]);
            is("corner in BLOCK", x.block(2), 1L << (8 * at[0] + at[1]));
            is("the BLOCK behind", x.block(1), 0);
            is("the BLOCK ahead", x.block(3), 0);
        }
        StairCodes x = new StairCodes();
        int[][] off = {{0, -1}, {0, 8}, {-1, 0}, {8, 0}, {7, 8}, {-1, 7}, {8, 7}, {7, -1}};
        for (int[] at : off) {
            is("off " + at[0] + " " + at[1], x.flip(2, at[0], at[1]), BAD);
        }
        is("nothing is turned", x.count(1), 0);
    }

    /** An odd number of COLUMNS, three or more, whose LABELS make a CHECK; lowest bit: COLUMN 0. */
    private static int columnsThatMake(int check) {
        for (int set = 0; set < 256; set++) {
            int made = 0;
            for (int c = 0; c < 8; c++) {
                made ^= (set >> c & 1) != 0 ? LABELS[8 + c] : 0;
            }
            if (made == check && Integer.bitCount(set) >= 3 && Integer.bitCount(set) % 2 == 1) {
                return set;
            }
        }
        return 0;
    }

    private static void flipColumns(StairCodes x, int i, int r, int set) {
        for (int c = 0; c < 8; c++) {
            if ((set >> c & 1) != 0) {
                x.flip(i, r, c);
            }
        }
    }

    /** "BLOCK 0 is all 0, and never anything else", "but one of BLOCK 0 is not [turned]" */
    private static void blockZeroIsNeverTurned() {
        for (int place = 0; place < 8; place++) {
            for (int rule = 0; rule < 2; rule++) {
                String at = "BLOCK 0, PLACE " + place + ", RULE " + rule;
                StairCodes x = new StairCodes();
                x.rule(rule);
                int r = 7 - place;
                flipColumns(x, 1, r, columnsThatMake(LABELS[place]));
                int wrong = x.count(1);
                is(at + ": CHECK", x.word(1, r, 0), LABELS[place]);
                is(at + ": ODD", x.word(1, r, 1), 1);
                is(at + ": no PLACE", x.word(1, r, 4), StairCodes.NONE);
                is(at + ": mend", x.mend(1, r), DOUBT);
                is(at + ": turn", x.turn(1, 1), 0);
                is(at + ": window", x.window(1, 1, 9), 0);
                is(at + ": THE JOURNAL", x.count(4), 0);
                is(at + ": WRONG", x.count(1), wrong);
                is(at + ": block", x.block(0), 0);
                is(at + ": CHECK then", x.word(1, r, 0), LABELS[place]);
            }
        }
    }

    /** "BLOCK 0 is all 0": WORDS 1, r have BITS of their ROWS alone. */
    private static void blockZeroIsInNoCheck() {
        StairCodes x = new StairCodes();
        x.sheet(0, 2, 64);
        x.lots(3, 256);
        is("read to BLOCK 0", x.read(0, 0), BAD);
        is("data of BLOCK 0", x.data(0, 0, 7), BAD);
        x.slide(2, 9);
        x.blocks(2);
        is("block(0)", x.block(0), 0);
        for (int r = 0; r < 8; r++) {
            is("SOUND", x.word(1, r, 2), 0);
            x.data(1, r, r);
            is("SOUND with DATA", x.word(1, r, 2), 0);
            is("even ROW", Integer.bitCount(x.row(1, r, 0)) % 2, 0);
        }
    }

    /** "in WORD i, r, at PLACE 8 and c, and, if i is not K, in WORD i and 1, c, at PLACE r" */
    private static void bitsAreInTwoWordsButThoseOfBlockK() {
        for (int k = 2; k <= 6; k++) {
            for (int i = 1; i <= k; i++) {
                StairCodes x = new StairCodes();
                x.blocks(k);
                int r = (3 * i + k) % 8;
                int c = (5 * i + 1) % 8;
                x.flip(i, r, c);
                String at = "K " + k + ", BIT of BLOCK " + i;
                is(at + ": how many WORDS", x.count(2), i == k ? 1 : 2);
                is(at + ": PLACE 8 and c", x.word(i, r, 4), 8 + c);
                is(at + ": CHECK", x.word(i, r, 0), LABELS[8 + c]);
                if (i < k) {
                    is(at + ": PLACE r", x.word(i + 1, c, 4), r);
                    is(at + ": CHECK of the other", x.word(i + 1, c, 0), LABELS[r]);
                }
                is(at + ": its PIECE's WORDS", x.piece(0, 1), i == k ? 1 : 2);
            }
        }
    }

    /** "SOUND, if it is not ODD and CHECK is 0": of COLUMN 3 the LABEL is 0. */
    private static void checkZeroMayBeOdd() {
        for (int rule = 0; rule < 2; rule++) {
            StairCodes x = new StairCodes();
            x.rule(rule);
            x.flip(4, 2, 3);
            is("CHECK 0", x.word(4, 2, 0), 0);
            is("ODD", x.word(4, 2, 1), 1);
            is("not SOUND", x.word(4, 2, 2), 2);
            is("counted", x.count(2), 1);
            is("not STALLED", x.count(3), 0);
            is("PLACE 11", x.word(4, 2, 4), 11);
            is("mend", x.mend(4, 2), 11);
            is("not WRONG", x.count(1), 0);
        }
    }

    /** "else, if not ODD, STALLED": two see, four may go unseen. */
    private static void evenOnesAreStalledOrSound() {
        StairCodes x = new StairCodes();
        x.flip(4, 0, 3);
        x.flip(4, 0, 4);
        is("two: STALLED", x.word(4, 0, 2), 1);
        x.flip(4, 0, 5);
        is("three: ODD", x.word(4, 0, 2), 2);
        // LABELS 0, 1, 2, 3 of COLUMNS 3, 4, 5, 0
        x.flip(4, 0, 0);
        is("four: SOUND", x.word(4, 0, 2), 0);
        is("four WRONG ones", x.word(4, 0, 3), 4);
        is("mend of it", x.mend(4, 0), StairCodes.NONE);
        is("no WORD is not SOUND", x.count(2), 0);
        is("four are WRONG", x.count(1), 4);
    }

    /** "DATA of a ROW: 0 to 7 (0 at first)" */
    private static void dataAreZeroToSeven() {
        for (int i = 1; i <= 4; i++) {
            StairCodes x = new StairCodes();
            for (int r = 0; r < 8; r++) {
                is("0 at first", x.row(i, r, 3), 0);
                is("first", x.data(i, r, 7), 0);
                is("8", x.data(i, r, 8), BAD);
                is("-1", x.data(i, r, -1), BAD);
                is("7 stays", x.data(i, r, 0), 7);
                is("0", x.data(i, r, r), 0);
                is("v", x.row(i, r, 3), r);
            }
            is("all SOUND", x.count(2), 0);
        }
    }

    /** "COLUMNS 0, 1, 2 of each ROW are bits of its DATA, the lowest first" */
    private static void dataStandInThreeColumns() {
        for (int v = 0; v < 8; v++) {
            StairCodes x = new StairCodes();
            x.data(1, 7, v);
            for (int c = 0; c < 3; c++) {
                is("DATA " + v + ", COLUMN " + c, x.bit(1, 7, c, 1), v >> c & 1);
            }
            int made = (v & 1) * 3 ^ (v >> 1 & 1) * 5 ^ (v >> 2 & 1) * 6;
            for (int c = 4; c < 8; c++) {
                is("DATA " + v + ", COLUMN " + c, x.bit(1, 7, c, 1), made >> (c - 4) & 1);
            }
            is("DATA " + v + ": even", Integer.bitCount(x.row(1, 7, 1)) % 2, 0);
            is("DATA NOW", x.row(1, 7, 2), v);
        }
    }

    /** "the others so that all WORDS are SOUND": of each K, each WORD counted PLACE by PLACE. */
    private static void sentIsSound() {
        for (int k = 2; k <= 6; k++) {
            StairCodes x = new StairCodes();
            x.blocks(k);
            for (int n = 8 * k - 1; n >= 0; n--) {
                x.data(1 + n / 8, n % 8, (5 * n + k) % 8);
            }
            x.flip(k, 0, 0);
            for (int n = 0; n < 8 * k; n++) {
                int i = 1 + n / 8;
                int r = n % 8;
                int check = 0;
                int ones = 0;
                for (int place = 0; place < 16; place++) {
                    int one = sentAt(x, i, r, place);
                    check ^= one * LABELS[place];
                    ones += one;
                }
                is("K " + k + ", WORD " + i + ", " + r + ": CHECK", check, 0);
                is("K " + k + ", WORD " + i + ", " + r + ": ones", ones % 2, 0);
                is("K " + k + ", WORD " + i + ", " + r + ": DATA", x.row(i, r, 1) & 7, (5 * n + k) % 8);
            }
        }
    }

    private static int sentAt(StairCodes x, int i, int r, int place) {
        if (place >= 8) {
            return x.row(i, r, 1) >> (place - 8) & 1;
        }
        return i == 1 ? 0 : x.row(i - 1, place, 1) >> r & 1;
    }

    /** "WRONG are BITS .. (none at first); when DATA change, the same ones are WRONG" */
    private static void dataChangeNoWrongBit() {
        StairCodes x = new StairCodes();
        is("none at first", x.count(1), 0);
        x.blocks(2);
        x.lots(77, 60);
        long[] wrong = {x.block(1), x.block(2)};
        x.data(1, 0, 7);
        x.data(2, 7, 5);
        for (int place = 0; place < 64; place++) {
            is("BLOCK 1, " + place, x.bit(1, place / 8, place % 8, 2), wrong[0] >>> place & 1);
            is("BLOCK 2, " + place, x.bit(2, place / 8, place % 8, 2), wrong[1] >>> place & 1);
        }
        is("how many", x.count(1), Long.bitCount(wrong[0]) + Long.bitCount(wrong[1]));
        is("none is FALSE", x.count(5), 0);
        x.data(1, 0, 0);
        x.data(2, 7, 0);
        is("BLOCK 1 as it was", x.block(1), wrong[0]);
        is("BLOCK 2 as it was", x.block(2), wrong[1]);
    }

    /** "HIT are those that were turned by flip(), lots(), read(), an odd number of times" */
    private static void hitIsAnOddNumberOfTimes() {
        StairCodes x = new StairCodes();
        x.sheet(0, 0, 1);
        x.put(0, 0, 0, 1);
        is("none", x.bit(4, 0, 0, 3), 0);
        x.flip(4, 0, 0);
        is("flip", x.bit(4, 0, 0, 3), 1);
        x.read(4, 0);
        is("flip, read", x.bit(4, 0, 0, 3), 0);
        x.lots(9, 256);
        is("flip, read, lots", x.bit(4, 0, 0, 3), 1);
        is("lots", x.bit(4, 0, 1, 3), 1);
        x.lots(8, 256);
        is("lots twice", x.bit(4, 0, 1, 3), 0);
        x.flip(4, 0, 0);
        is("five times", x.bit(4, 0, 0, 3), 1);
        is("WRONG", x.count(1), 1);
        x.mend(4, 0);
        is("a mend does not count", x.bit(4, 0, 0, 3), 1);
        x.undo();
        is("nor does undo", x.bit(4, 0, 0, 3), 1);
        x.mend(4, 0);
        x.flip(4, 0, 5);
        is("back", x.back(), 1);
        is("nor does back", x.bit(4, 0, 0, 3), 1);
    }

    /** "FALSE are BITS that are WRONG and were not HIT" */
    private static void falseOnesAreNotHit() {
        StairCodes x = new StairCodes();
        x.flip(4, 3, 3);
        is("WRONG and HIT", x.count(5), 0);
        x.mend(4, 3);
        is("HIT, not WRONG", x.count(5), 0);
        x.flip(4, 3, 3);
        is("WRONG, turned twice", x.count(5), 1);
        x.mend(4, 3);
        is("neither", x.count(5), 0);
        // LABELS 3, 5, 0 make 6: COLUMN 2 is mended, though it was not WRONG
        x.flip(4, 4, 0);
        x.flip(4, 4, 1);
        x.flip(4, 4, 3);
        x.mend(4, 4);
        is("mended wrongly", x.count(5), 1);
        x.undo();
        is("taken back", x.count(5), 0);
        for (int k = 2; k <= 6; k++) {
            for (int i : new int[] {1, k}) {
                x.blocks(k);
                x.flip(i, 0, 0);
                x.mend(i, 0);
                x.flip(i, 0, 0);
                is("K " + k + ", of BLOCK " + i, x.count(5), 1);
            }
        }
    }

    /** "RULE is 0 at first", "by RULE 1 .. none whose other WORD, if it has one, is SOUND" */
    private static void ruleOneDoubtsSoundOthers() {
        for (int k = 2; k <= 6; k++) {
            for (int place = 0; place < 16; place++) {
                for (int i = 2; i <= k; i++) {
                    doubtOne(k, i, (i + k + place) % 8, place);
                    doubtOne(k, i, place % 8, place);
                }
            }
        }
    }

    private static void flipPlace(StairCodes x, int i, int r, int place) {
        if (place < 8) {
            x.flip(i - 1, place, r);
        } else {
            x.flip(i, r, place - 8);
        }
    }

    /** Three other PLACES of a WORD whose LABELS make that of this one. */
    private static void flipThreeThatMake(StairCodes x, int i, int r, int place) {
        for (int p = 0; p < 16; p++) {
            for (int q = p + 1; q < 16; q++) {
                for (int s = q + 1; s < 16; s++) {
                    boolean others = p != place && q != place && s != place;
                    if (others && (LABELS[p] ^ LABELS[q] ^ LABELS[s]) == LABELS[place]) {
                        flipPlace(x, i, r, p);
                        flipPlace(x, i, r, q);
                        flipPlace(x, i, r, s);
                        return;
                    }
                }
            }
        }
    }

    /** Three WRONG BITS point to a BIT that is right; its other WORD is SOUND, then ODD, then STALLED. */
    private static void doubtOne(int k, int i, int r, int place) {
        StairCodes x = new StairCodes();
        x.blocks(k);
        flipThreeThatMake(x, i, r, place);
        String at = "K " + k + ", WORD " + i + ", " + r + ", PLACE " + place;
        is(at + ", RULE 0", x.word(i, r, 4), place);
        x.rule(1);
        if (place >= 8 && i == k) {
            is(at + ", RULE 1, no other", x.word(i, r, 4), place);
            is(at + ", mend", x.mend(i, r), place);
            return;
        }
        int otherI = place < 8 ? i - 1 : i + 1;
        int otherR = place < 8 ? place : place - 8;
        is(at + ", the other is SOUND", x.word(otherI, otherR, 2), 0);
        is(at + ", RULE 1", x.word(i, r, 4), StairCodes.NONE);
        is(at + ", mend", x.mend(i, r), DOUBT);
        // a BIT of the other WORD that is not in this one
        x.flip(otherI, otherR, place < 8 ? (r + 1) % 8 : 0);
        is(at + ", the other is ODD", x.word(otherI, otherR, 2), 2);
        is(at + ", RULE 1, ODD", x.word(i, r, 4), place);
        x.flip(otherI, otherR, place < 8 ? (r + 2) % 8 : 1);
        is(at + ", the other is STALLED", x.word(otherI, otherR, 2), 1);
        is(at + ", RULE 1, STALLED", x.mend(i, r), place);
    }

    /** "60 at most: then the oldest one leaves it" */
    private static void journalHasSixty() {
        StairCodes x = new StairCodes();
        List<Integer> told = new ArrayList<>();
        for (int n = 0; n < 130; n++) {
            int r = n % 8;
            int c = n * 3 % 8;
            x.flip(4, r, c);
            x.mend(4, r);
            told.add(256 + 8 * r + c);
            is("how many behind " + n, x.count(4), Math.min(60, n + 1));
        }
        for (int n = 0; n < 60; n++) {
            is("MEND " + n, x.journal(n), told.get(70 + n));
        }
        is("MEND 60", x.journal(60), BAD);
    }

    /** The same of MENDS that one SLIDE makes: its TURNS, one by one, tell all of them. */
    private static void journalHasSixtyOfOneSlide() {
        int full = 0;
        for (int seed = 1; seed <= 12; seed++) {
            StairCodes x = new StairCodes();
            StairCodes y = new StairCodes();
            x.blocks(6);
            y.blocks(6);
            x.lots(seed, 60);
            y.lots(seed, 60);
            x.slide(2, 9);
            List<Integer> told = mendsOfSlide(y, 6, 2, 9);
            int have = Math.min(60, told.size());
            is("seed " + seed + ": THE JOURNAL's size", x.count(4), have);
            for (int n = 0; n < have; n++) {
                is("seed " + seed + ", MEND " + n, x.journal(n), told.get(told.size() - have + n));
            }
            full += told.size() > 60 ? 1 : 0;
        }
        is("some SLIDES had more than 60 MENDS", full > 0 ? 1 : 0, 1);
    }

    private static List<Integer> mendsOfSlide(StairCodes y, int k, int n, int turns) {
        List<Integer> told = new ArrayList<>();
        for (int a = 1; a + n - 1 <= k; a++) {
            boolean some = true;
            for (int t = 0; t < turns && some; t++) {
                int turned = y.turn(a, a + n - 1);
                some = turned > 0;
                for (int m = 0; m < turned; m++) {
                    told.add(y.journal(m));
                }
                y.settle();
            }
        }
        return told;
    }

    /** An object is used for 512 calls: the last one is answered, too. */
    private static void fiveHundredAndTwelveCalls() {
        StairCodes x = new StairCodes();
        for (int n = 1; n < 512; n++) {
            is("call " + n, x.flip(4, 7, 7), n % 2);
        }
        is("call 512", x.block(4), 1L << 63);
    }

    public static void main(String[] args) {
        blocksAreOneToK();
        rowsAndColumnsAreZeroToSeven();
        blockZeroIsNeverTurned();
        blockZeroIsInNoCheck();
        bitsAreInTwoWordsButThoseOfBlockK();
        checkZeroMayBeOdd();
        evenOnesAreStalledOrSound();
        dataAreZeroToSeven();
        dataStandInThreeColumns();
        sentIsSound();
        dataChangeNoWrongBit();
        hitIsAnOddNumberOfTimes();
        falseOnesAreNotHit();
        ruleOneDoubtsSoundOthers();
        journalHasSixty();
        journalHasSixtyOfOneSlide();
        fiveHundredAndTwelveCalls();
        Due.end();
    }
}
