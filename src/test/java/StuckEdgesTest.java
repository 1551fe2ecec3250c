/** Promises 20 to 24, with PIECES, STUCK and AROUND: each sentence that names an edge has a method of its own. */
public final class StuckEdgesTest {
    private static final int MIN = Integer.MIN_VALUE, MAX = Integer.MAX_VALUE;
    private static final int BAD = -2;

    private static void is(String call, long got, long want) {
        Due.is(call, got, want);
    }

    private static int bit(int i, int r, int c) {
        return 64 * i + 8 * r + c;
    }

    /** 20: "The k-th WORD that is STALLED, by i, by r": none, one, all of them. */
    private static void stallsFromNoneToAll() {
        for (int k = 2; k <= 6; k++) {
            StairCodes x = States.ofBlocks(k);
            is("20: none", x.stall(0), BAD);
            x.flip(k, 7, 0);
            is("20: ODD", x.stall(0), BAD);
            x.flip(k, 7, 1);
            is("20: one", x.stall(0), 8 * k + 7);
            is("20: 1 of one", x.stall(1), BAD);
            x.blocks(k);
            turnTwoColumns(x, k);
            is("20: how many", x.count(3), 8 * k);
            for (int n = 0; n < 8 * k; n++) {
                is("20: STALLED " + n, x.stall(n), 8 + n);
            }
            for (int n : new int[] {8 * k, -1, MIN, MAX}) {
                is("20: stall " + n, x.stall(n), BAD);
            }
        }
    }

    /** COLUMNS 0 and 1 of all ROWS: each WORD has two of its ROW, WORDS i, 0 and i, 1 eight of a COLUMN, too. */
    private static void turnTwoColumns(StairCodes x, int k) {
        x.sheet(0, 0, 64);
        for (int n = 0; n < 64; n++) {
            x.put(0, 0, n, n % 8 < 2 ? 1 : 0);
        }
        for (int i = 1; i <= k; i++) {
            x.read(i, 0);
        }
    }

    /** "WRONG BITS that have a WORD in common are of one PIECE" */
    private static void commonWordsJoin() {
        int[][] joined = {
            // a ROW; a COLUMN; a COLUMN and the ROW of the next BLOCK; of BLOCK K a ROW
            {2, 3, 0, 2, 3, 7}, {2, 0, 3, 2, 7, 3}, {2, 5, 6, 3, 6, 1}, {4, 7, 0, 4, 7, 7}, {1, 0, 0, 1, 0, 7}, {3, 0, 7, 4, 7, 0}};
        for (int[] b : joined) {
            is("21: joined", piecesOf(b), 1);
        }
        int[][] apart = {
            // of BLOCK K a COLUMN; ROW and COLUMN unlike; a ROW and the next BLOCK's; two BLOCKS on
            {4, 0, 3, 4, 7, 3}, {2, 3, 0, 2, 4, 1}, {2, 5, 6, 3, 5, 6}, {1, 2, 2, 3, 2, 2}, {3, 7, 0, 4, 7, 0}};
        for (int[] b : apart) {
            is("21: apart", piecesOf(b), 2);
        }
    }

    private static int piecesOf(int[] b) {
        StairCodes x = new StairCodes();
        x.flip(b[0], b[1], b[2]);
        x.flip(b[3], b[4], b[5]);
        is("21: second PIECE", x.piece(1, 0), x.count(6) == 2 ? 1 : BAD);
        return x.count(6);
    }

    /** "so are those that have one with one of these, and so on" */
    private static void piecesGoOn() {
        StairCodes x = States.ofBlocks(6);
        for (int i = 1; i <= 6; i++) {
            x.flip(i, i, i + 1);
        }
        is("21: a stair through all BLOCKS", x.count(6), 1);
        is("21: BITS", x.piece(0, 0), 6);
        is("21: WORDS", x.piece(0, 1), 6);
        is("21: not STUCK", x.piece(0, 2), 0);
        is("21: least", x.piece(0, 3), bit(1, 1, 2));
        x.flip(3, 3, 4);
        is("21: broken", x.count(6), 2);
        is("21: first part", x.piece(0, 0), 2);
        is("21: first part's WORDS", x.piece(0, 1), 3);
        is("21: second part", x.piece(1, 0), 3);
        is("21: second part's WORDS", x.piece(1, 1), 3);
        is("21: second part's least", x.piece(1, 3), bit(4, 4, 5));
    }

    /** "numbered 0 on by their least BITS (by BLOCK, ROW, COLUMN)" */
    private static void piecesAreNumberedByLeastBits() {
        StairCodes x = new StairCodes();
        // 1, 7, 0 and 2, 0, 5 have WORD 2, 0; 1, 6, 5 and 1, 6, 6 have WORD 1, 6; 2, 1, 1 is alone
        x.flip(2, 1, 1);
        x.flip(2, 0, 5);
        x.flip(1, 7, 0);
        x.flip(1, 6, 6);
        x.flip(1, 6, 5);
        int[] least = {bit(1, 6, 5), bit(1, 7, 0), bit(2, 1, 1)};
        int[] bits = {2, 2, 1};
        int[] words = {3, 3, 2};
        for (int k = 0; k < 3; k++) {
            is("21: least of " + k, x.piece(k, 3), least[k]);
            is("21: BITS of " + k, x.piece(k, 0), bits[k]);
            is("21: WORDS of " + k, x.piece(k, 1), words[k]);
        }
        is("21: PIECE 3", x.piece(3, 3), BAD);
    }

    /** 21: many PIECES of one BIT each, and one of all BITS. */
    private static void piecesFromManyToOne() {
        StairCodes x = States.ofBlocks(6);
        for (int n = 0; n < 8; n++) {
            x.flip(6, n, 3);
            x.flip(4, n, 7 - n);
            x.flip(2, n, n);
        }
        is("21: many", x.count(6), 24);
        for (int k = 0; k < 24; k++) {
            is("21: one BIT", x.piece(k, 0), 1);
            is("21: its WORDS", x.piece(k, 1), k < 16 ? 2 : 1);
            is("21: not STUCK", x.piece(k, 2), 0);
        }
        is("21: last", x.piece(23, 3), bit(6, 7, 3));
        is("21: one more", x.piece(24, 0), BAD);
        for (int k = 2; k <= 6; k++) {
            x = States.ofBlocks(k);
            x.lots(0, 256);
            is("21: all in one", x.count(6), 1);
            is("21: all BITS", x.piece(0, 0), 64 * k);
            is("21: all WORDS", x.piece(0, 1), 8 * k);
            is("21: STUCK", x.piece(0, 2), 1);
            is("21: the least of all", x.piece(0, 3), 64);
            is("21: PIECE 1", x.piece(1, 0), BAD);
        }
    }

    /** "STUCK, if each WORD that has a BIT of it has two or more WRONG ones" */
    private static void stuckNeedsTwoInEachWord() {
        StairCodes x = new StairCodes();
        x.flip(4, 2, 2);
        is("21: one of BLOCK K", x.piece(0, 2), 0);
        x.flip(4, 2, 6);
        is("21: two of a ROW of BLOCK K", x.piece(0, 2), 1);
        x.flip(4, 2, 7);
        is("21: three of it", x.piece(0, 2), 1);
        is("21: STUCK ones", x.count(7), 1);
        x.blocks(4);
        x.flip(3, 2, 2);
        x.flip(3, 2, 6);
        is("21: two of a ROW of BLOCK 3", x.piece(0, 2), 0);
        x.flip(3, 5, 2);
        is("21: three corners", x.piece(0, 2), 0);
        x.flip(3, 5, 6);
        is("21: four corners", x.piece(0, 2), 1);
        x.flip(3, 5, 6);
        // a ring through BLOCK 4: WORDS 3, 2; 4, 2; 4, 6
        x.flip(3, 5, 2);
        x.flip(4, 2, 0);
        is("21: WORD 4, 6 has one", x.piece(0, 2), 0);
        x.flip(4, 6, 0);
        is("21: each has two", x.piece(0, 2), 1);
        x.flip(1, 0, 0);
        is("21: another is not", x.count(7), 1);
        is("21: it is the first now", x.piece(0, 2), 0);
        is("21: the STUCK one is the second", x.piece(1, 2), 1);
    }

    /** 21: "what = 0 .. 3", "BAD" */
    private static void pieceRefuses() {
        StairCodes x = new StairCodes();
        for (int what = 0; what < 4; what++) {
            is("21: none", x.piece(0, what), BAD);
        }
        x.flip(1, 0, 0);
        for (int k : new int[] {-1, 1, MIN, MAX}) {
            is("21: PIECE " + k, x.piece(k, 0), BAD);
        }
        for (int what : new int[] {-1, 4, MIN, MAX}) {
            is("21: what " + what, x.piece(0, what), BAD);
        }
    }

    /** "of BLOCKS 1 to K less 1 .. (of a BIT of BLOCK K: 0)" */
    private static void aroundByBlocks() {
        for (int k = 2; k <= 6; k++) {
            StairCodes x = States.ofBlocks(k);
            for (int i = 1; i <= k; i++) {
                // 7 times 7 in its own BLOCK, 7 times 8 with the BLOCK behind, and with the BLOCK ahead but K
                int want = i == k ? 0 : 49 + (i > 1 ? 56 : 0) + (i < k - 1 ? 56 : 0);
                is("22: K " + k + ", first of " + i, x.around(i, 0, 0), want);
                is("22: K " + k + ", last of " + i, x.around(i, 7, 7), want);
            }
            is("22: BLOCK 0", x.around(0, 0, 0), BAD);
            is("22: BLOCK K and 1", x.around(k + 1, 0, 0), BAD);
            is("22: of BLOCK K, ROW 8", x.around(k, 8, 0), BAD);
            is("22: of BLOCK K, COLUMN -1", x.around(k, 0, -1), BAD);
            x.lots(1, 100);
            is("22: what is WRONG plays no part", x.around(1, 3, 3), k == 2 ? 49 : 105);
        }
    }

    private static StairCodes hitByLots(int k, int seed) {
        StairCodes x = States.ofBlocks(k);
        x.data(1, 0, 5);
        x.rule(seed & 1);
        x.lots(seed, 6 + seed);
        x.turn(k, k);
        return x;
    }

    /** 23: "How many BITS would be WRONG behind a SLIDE by a RULE. (Nothing of it stays.)" */
    private static void wouldIsASlide() {
        for (int seed = 1; seed <= 24; seed++) {
            int k = 2 + seed % 5;
            for (int n = 2; n <= k; n++) {
                for (int rule = 0; rule < 2; rule++) {
                    int turns = 1 + (seed + n) % 9;
                    StairCodes x = hitByLots(k, seed);
                    StairCodes y = hitByLots(k, seed);
                    y.rule(rule);
                    y.slide(n, turns);
                    String told = "23: seed " + seed + ", SIZE " + n + ", RULE " + rule;
                    is(told, x.would(n, turns, rule), y.count(1));
                    Look.alike(told, x, hitByLots(k, seed), 0);
                }
            }
        }
    }

    /** 23: SIZES 2 and K, T 1 and 9, RULES 0 and 1, and just outside. */
    private static void wouldAtTheEnds() {
        for (int k = 2; k <= 6; k++) {
            StairCodes x = States.ofBlocks(k);
            x.flip(1, 0, 0);
            x.flip(k, 7, 7);
            for (int turns : new int[] {1, 9}) {
                is("23: SIZE 2", x.would(2, turns, 0), 0);
                is("23: SIZE K", x.would(k, turns, 1), 0);
            }
            int[][] bad = {{1, 1, 0}, {k + 1, 1, 0}, {2, 0, 0}, {2, 10, 0}, {2, 1, -1}, {2, 1, 2}, {0, 0, 0}};
            for (int[] b : bad) {
                is("23: " + b[0] + " " + b[1] + " " + b[2], x.would(b[0], b[1], b[2]), BAD);
            }
            is("23: WRONG still", x.count(1), 2);
            is("23: THE JOURNAL", x.count(4), 0);
        }
    }

    /** 23: T 1 to 9 of a path of which each TURN takes four, the first one three. */
    private static void wouldOfALongPath() {
        StairCodes x = States.longPath();
        for (int turns = 1; turns <= 9; turns++) {
            is("23: T " + turns, x.would(6, turns, 0), 48 - 4 * turns);
            is("23: T " + turns + ", RULE 1", x.would(6, turns, 1), 48 - 4 * turns);
        }
        is("23: T 10", x.would(6, 10, 0), BAD);
        is("23: nothing stays", x.count(1), 47);
    }

    /** 24: "by RULE as it is, leaves fewest BITS WRONG, of like ones the least" */
    private static void bestOfLikeOnesIsTheLeast() {
        int ties = 0;
        for (int seed = 1; seed <= 40; seed++) {
            int k = 2 + seed % 5;
            StairCodes x = hitByLots(k, seed);
            int turns = 1 + seed % 9;
            int[] left = new int[k + 1];
            int want = 2;
            for (int n = 2; n <= k; n++) {
                left[n] = x.would(n, turns, seed & 1);
                want = left[n] < left[want] ? n : want;
            }
            for (int n = want + 1; n <= k; n++) {
                ties += want > 2 && left[n] == left[want] ? 1 : 0;
            }
            is("24: seed " + seed, x.best(turns), want);
            Look.alike("24: seed " + seed, x, hitByLots(k, seed), 0);
        }
        is("24: some were alike", ties > 0 ? 1 : 0, 1);
    }

    /** 24: of nothing WRONG all SIZES are alike; T 1 and 9, and just outside. */
    private static void bestAtTheEnds() {
        for (int k = 2; k <= 6; k++) {
            StairCodes x = States.ofBlocks(k);
            is("24: nothing WRONG", x.best(1), 2);
            x.lots(3, 256);
            is("24: all WRONG, T 9", x.best(9) >= 2 ? 1 : 0, 1);
            for (int turns : new int[] {0, 10, -1, MIN, MAX}) {
                is("24: T " + turns, x.best(turns), BAD);
            }
        }
    }

    public static void main(String[] args) {
        stallsFromNoneToAll();
        commonWordsJoin();
        piecesGoOn();
        piecesAreNumberedByLeastBits();
        piecesFromManyToOne();
        stuckNeedsTwoInEachWord();
        pieceRefuses();
        aroundByBlocks();
        wouldIsASlide();
        wouldAtTheEnds();
        wouldOfALongPath();
        bestOfLikeOnesIsTheLeast();
        bestAtTheEnds();
        Due.end();
    }
}
