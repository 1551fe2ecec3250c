/** Each promise in turn: ordinary inputs, the edges that the document names, and wrong inputs. */
public final class PromisesTest {
    private static final int MIN = Integer.MIN_VALUE, MAX = Integer.MAX_VALUE;
    private static final int NULL = -11, INDEX = -12, CAST = -13, STORE = -14, SIZE = -15;

    private static void is(String call, long got, long want) {
        Due.is(call, got, want);
    }

    /** An act that is refused answers so, and changes nothing but, if it is a FINDING, count() 8. */
    private static void refused(String call, StairCodes x, long before, long got, long want) {
        is(call, got, want);
        is(call + ", then digest()", x.digest(), before);
        if (want <= -11 && want >= -15) {
            is(call + ", then count(8)", x.count(8), -10 - want);
        }
    }

    private static void promise1() {
        StairCodes x = new StairCodes();
        is("1: K", x.count(0), 4);
        for (int what = 1; what <= 8; what++) {
            is("1: count " + what, x.count(what), 0);
        }
        for (int i = 1; i <= 4; i++) {
            is("1: block", x.block(i), 0);
            for (int r = 0; r < 8; r++) {
                is("1: DATA", x.row(i, r, 3), 0);
            }
        }
        is("1: RULE", x.rule(0), 0);
        is("1: undo", x.undo(), StairCodes.NOT);
        for (int s = 0; s < 4; s++) {
            is("1: LOST", x.lose(s), NULL);
        }
    }

    private static void promise2() {
        StairCodes x = new StairCodes();
        x.rule(1);
        x.sheet(2, 2, 5);
        x.put(2, 2, 4, 9);
        x.get(0, 0);
        x.data(1, 1, 7);
        x.flip(2, 2, 2);
        x.flip(1, 0, 0);
        x.mend(1, 0);
        long before = x.digest();
        for (int k : new int[] {1, 7, 0, -1, MIN, MAX}) {
            refused("2: blocks " + k, x, before, x.blocks(k), StairCodes.BAD);
        }
        is("2: blocks 6", x.blocks(6), 4);
        is("2: blocks 2", x.blocks(2), 6);
        is("2: K", x.count(0), 2);
        for (int what = 1; what <= 7; what++) {
            is("2: count " + what, x.count(what), 0);
        }
        is("2: not HIT", x.bit(2, 2, 2, 3), 0);
        is("2: DATA", x.row(1, 1, 3), 0);
        is("2: RULE stays", x.rule(0), 1);
        is("2: SHEETS stay", x.get(2, 4), 9);
        is("2: FINDING stays", x.count(8), 1);
        is("2: BLOCK 3 is no more", x.flip(3, 0, 0), StairCodes.BAD);
        is("2: K again", x.blocks(3), 2);
    }

    private static void promise3() {
        StairCodes x = new StairCodes();
        is("3: data", x.data(1, 0, 5), 0);
        is("3: data again", x.data(1, 0, 6), 5);
        // LABELS 5 and 6 make CHECK 3: COLUMNS 4 and 5; four BITS are even
        is("3: SENT", x.row(1, 0, 1), 0b00110110);
        x.flip(1, 0, 1);
        x.flip(4, 7, 7);
        is("3: NOW", x.row(1, 0, 0), 0b00110100);
        is("3: data under WRONG", x.data(1, 0, 0), 6);
        is("3: the same are WRONG", x.row(1, 0, 0), 2);
        is("3: the same are WRONG, in a later BLOCK", x.bit(4, 7, 7, 2), 1);
        is("3: no more WRONG", x.count(1), 2);
        is("3: HIT stays", x.bit(1, 0, 1, 3), 1);
        x.data(4, 7, 7);
        long before = x.digest();
        int[][] bad = {{0, 0, 1}, {5, 0, 1}, {1, -1, 1}, {1, 8, 1}, {1, 0, -1}, {1, 0, 8}, {MIN, MIN, MIN}, {MAX, MAX, MAX}};
        for (int[] b : bad) {
            refused("3: data " + b[0] + " " + b[1] + " " + b[2], x, before, x.data(b[0], b[1], b[2]), StairCodes.BAD);
        }
        allWordsAreSound();
    }

    private static void allWordsAreSound() {
        StairCodes x = new StairCodes();
        x.blocks(6);
        int v = 3;
        for (int i = 1; i <= 6; i++) {
            for (int r = 0; r < 8; r++) {
                v = (5 * v + 3 * i + r) & 7;
                x.data(i, r, v);
            }
        }
        is("3: SOUND ones", x.count(2), 0);
        is("3: WRONG ones", x.count(1), 0);
        for (int i = 1; i <= 6; i++) {
            for (int r = 0; r < 8; r++) {
                is("3: first three COLUMNS", x.row(i, r, 1) & 7, x.row(i, r, 3));
                is("3: even", (Integer.bitCount(x.row(i, r, 1)) + Long.bitCount(x.block(i - 1) & (0x0101010101010101L << r))) & 1, 0);
            }
        }
    }

    private static void promise4() {
        StairCodes x = new StairCodes();
        is("4: flip", x.flip(1, 0, 0), 1);
        is("4: flip another", x.flip(4, 7, 7), 2);
        is("4: flip back", x.flip(1, 0, 0), 1);
        is("4: an even number of times is not HIT", x.bit(1, 0, 0, 3), 0);
        is("4: an odd number is", x.bit(4, 7, 7, 3), 1);
        is("4: NOW", x.block(4), 1L << 63);
        is("4: not in THE JOURNAL", x.count(4), 0);
        long before = x.digest();
        int[][] bad = {{0, 0, 0}, {5, 0, 0}, {1, -1, 0}, {1, 8, 0}, {1, 0, -1}, {1, 0, 8}, {MIN, 0, 0}, {1, MAX, 0}, {1, 0, MIN}};
        for (int[] b : bad) {
            refused("4: flip " + b[0] + " " + b[1] + " " + b[2], x, before, x.flip(b[0], b[1], b[2]), StairCodes.BAD);
        }
    }

    private static void promise5() {
        StairCodes x = new StairCodes();
        is("5: none", x.lots(99, 0), 0);
        is("5: all", x.lots(99, 256), 256);
        is("5: all of them", x.block(3), -1L);
        is("5: HIT", x.bit(2, 3, 4, 3), 1);
        is("5: all again", x.lots(-5, 256), 256);
        is("5: none is WRONG", x.count(1), 0);
        // SEED 0 becomes 12345, whose upper 16 bits are 0; the next one's are 0x5471, mod 256 is 113
        x.lots(0, 1);
        is("5: first lot", x.bit(1, 0, 0, 0), 1);
        is("5: second lot", x.bit(1, 0, 1, 0), 0);
        x.blocks(2);
        int seed = -123456789;
        int want = 0;
        is("5: of 128", x.lots(seed, 40), countLots(seed, 40, 128));
        for (int b = 0; b < 128; b++) {
            seed = seed * 1103515245 + 12345;
            want = Math.floorMod(seed >> 16, 256) < 40 ? 1 : 0;
            is("5: lot " + b, x.bit(1 + b / 64, b / 8 % 8, b % 8, 3), want);
        }
        long before = x.digest();
        for (int n : new int[] {-1, 257, MIN, MAX}) {
            refused("5: lots " + n, x, before, x.lots(1, n), StairCodes.BAD);
        }
    }

    private static int countLots(int start, int n, int bits) {
        int seed = start;
        int sum = 0;
        for (int b = 0; b < bits; b++) {
            seed = seed * 1103515245 + 12345;
            sum += Math.floorMod(seed >> 16, 256) < n ? 1 : 0;
        }
        return sum;
    }

    private static void promise6() {
        StairCodes x = new StairCodes();
        x.sheet(0, 2, 11);
        x.put(0, 2, 0, -7);
        x.put(0, 2, 10, MIN);
        is("6: read", x.read(4, 0), 2);
        is("6: turned", x.block(4), 1L | 1L << 10);
        is("6: HIT", x.bit(4, 1, 2, 3), 1);
        is("6: read again", x.read(4, 0), 2);
        is("6: turned back", x.block(4), 0);
        x.sheet(1, 1, 64);
        x.put(1, 1, 0, 255);
        x.put(1, 1, 63, 2);
        is("6: longs item by item", x.read(1, 1), 2);
        is("6: longs", x.block(1), 1L | 1L << 63);
        x.sheet(2, 0, 0);
        is("6: no items", x.read(2, 2), 0);
        long before = x.digest();
        refused("6: BLOCK 0", x, before, x.read(0, 0), StairCodes.BAD);
        refused("6: BLOCK 5", x, before, x.read(5, 0), StairCodes.BAD);
        refused("6: SHEET -1", x, before, x.read(1, -1), StairCodes.BAD);
        refused("6: SHEET 4", x, before, x.read(1, 4), StairCodes.BAD);
        is("6: BAD is no FINDING", x.count(8), 0);
        refused("6: BAD ahead of NULL", x, before, x.read(0, 3), StairCodes.BAD);
        refused("6: LOST", x, before, x.read(1, 3), NULL);
    }

    private static void promise7() {
        StairCodes x = new StairCodes();
        is("7: rule", x.rule(1), 0);
        is("7: rule again", x.rule(1), 1);
        for (int v : new int[] {-1, 2, MIN, MAX}) {
            is("7: rule " + v, x.rule(v), StairCodes.BAD);
        }
        is("7: as it was", x.rule(0), 1);
        is("7: rule 0", x.rule(0), 0);
    }

    private static void promise8() {
        StairCodes x = new StairCodes();
        x.data(2, 3, 1);
        x.flip(2, 3, 0);
        is("8: NOW", x.bit(2, 3, 0, 0), 0);
        is("8: SENT", x.bit(2, 3, 0, 1), 1);
        is("8: WRONG", x.bit(2, 3, 0, 2), 1);
        is("8: HIT", x.bit(2, 3, 0, 3), 1);
        is("8: THE JOURNAL", x.bit(2, 3, 0, 4), 0);
        x.mend(2, 3);
        is("8: mended", x.bit(2, 3, 0, 0), 1);
        is("8: not WRONG", x.bit(2, 3, 0, 2), 0);
        is("8: still HIT", x.bit(2, 3, 0, 3), 1);
        is("8: in THE JOURNAL", x.bit(2, 3, 0, 4), 1);
        x.flip(2, 3, 0);
        x.mend(3, 0);
        is("8: twice", x.bit(2, 3, 0, 4), 2);
        is("8: another is not", x.bit(2, 3, 1, 4), 0);
        int[][] bad = {{0, 0, 0, 0}, {5, 0, 0, 0}, {1, -1, 0, 0}, {1, 8, 0, 0}, {1, 0, -1, 0}, {1, 0, 8, 0}, {1, 0, 0, -1}, {1, 0, 0, 5}, {MAX, MIN, MAX, MIN}};
        for (int[] b : bad) {
            is("8: bit " + b[0] + " " + b[1] + " " + b[2] + " " + b[3], x.bit(b[0], b[1], b[2], b[3]), StairCodes.BAD);
        }
    }

    private static void promise9() {
        StairCodes x = new StairCodes();
        x.data(1, 7, 4);
        // LABEL 6: COLUMNS 5 and 6; with COLUMN 2 three BITS, so COLUMN 3, too
        is("9: SENT", x.row(1, 7, 1), 0b01101100);
        x.flip(1, 7, 0);
        x.flip(1, 7, 7);
        is("9: NOW", x.row(1, 7, 0), 0b11101101);
        is("9: DATA NOW", x.row(1, 7, 2), 5);
        is("9: DATA", x.row(1, 7, 3), 4);
        int[][] bad = {{0, 0, 0}, {5, 0, 0}, {1, -1, 0}, {1, 8, 0}, {1, 0, -1}, {1, 0, 4}, {MIN, 0, 0}, {1, MAX, 0}, {1, 0, MAX}};
        for (int[] b : bad) {
            is("9: row " + b[0] + " " + b[1] + " " + b[2], x.row(b[0], b[1], b[2]), StairCodes.BAD);
        }
    }

    private static void promise10() {
        StairCodes x = new StairCodes();
        x.flip(3, 7, 7);
        x.flip(3, 2, 5);
        is("10: block", x.block(3), 1L << 63 | 1L << 21);
        x.lots(1, 256);
        for (int i : new int[] {0, -1, 5, MIN, MAX}) {
            is("10: block " + i, x.block(i), 0);
        }
        is("10: no FINDING", x.count(8), 0);
    }

    private static void promise11() {
        int[] labels = {7, 9, 10, 11, 12, 13, 14, 15, 3, 5, 6, 0, 1, 2, 4, 8};
        for (int place = 0; place < 16; place++) {
            StairCodes x = new StairCodes();
            if (place < 8) {
                x.flip(2, place, 6);
            } else {
                x.flip(3, 6, place - 8);
            }
            is("11: LABEL " + place, x.word(3, 6, 0), labels[place]);
            is("11: ODD " + place, x.word(3, 6, 1), 1);
            is("11: kind " + place, x.word(3, 6, 2), 2);
            is("11: WRONG " + place, x.word(3, 6, 3), 1);
            is("11: PLACE " + place, x.word(3, 6, 4), place);
            is("11: mend " + place, x.mend(3, 6), place);
            is("11: WRONG then " + place, x.count(1), 0);
        }
        StairCodes x = new StairCodes();
        is("11: SOUND", x.word(4, 7, 2), 0);
        is("11: no PLACE", x.word(4, 7, 4), StairCodes.NONE);
        x.flip(1, 0, 0);
        x.flip(1, 0, 1);
        is("11: CHECK of two", x.word(1, 0, 0), 3 ^ 5);
        is("11: not ODD", x.word(1, 0, 1), 0);
        is("11: STALLED", x.word(1, 0, 2), 1);
        is("11: two WRONG", x.word(1, 0, 3), 2);
        is("11: STALLED has no PLACE", x.word(1, 0, 4), StairCodes.NONE);
        x.flip(1, 0, 4);
        // 3, 5 and 1 make 7, the LABEL of a BIT of BLOCK 0
        is("11: CHECK of three", x.word(1, 0, 0), 7);
        is("11: BLOCK 0 is DOUBTED", x.word(1, 0, 4), StairCodes.NONE);
        int[][] bad = {{0, 0, 0}, {5, 0, 0}, {1, -1, 0}, {1, 8, 0}, {1, 0, -1}, {1, 0, 5}, {MIN, 0, 0}, {1, MAX, 0}, {1, 0, MIN}};
        for (int[] b : bad) {
            is("11: word " + b[0] + " " + b[1] + " " + b[2], x.word(b[0], b[1], b[2]), StairCodes.BAD);
        }
    }

    private static void promise12() {
        StairCodes x = new StairCodes();
        x.flip(1, 0, 0);
        x.flip(1, 0, 1);
        long before = x.digest();
        refused("12: STALL", x, before, x.mend(1, 0), StairCodes.STALL);
        refused("12: SOUND", x, before, x.mend(1, 1), StairCodes.NONE);
        x.flip(1, 0, 4);
        before = x.digest();
        refused("12: BLOCK 0", x, before, x.mend(1, 0), StairCodes.DOUBT);
        int[][] bad = {{0, 0}, {5, 0}, {1, -1}, {1, 8}, {MIN, MAX}, {MAX, MIN}};
        for (int[] b : bad) {
            refused("12: mend " + b[0] + " " + b[1], x, before, x.mend(b[0], b[1]), StairCodes.BAD);
        }
        mendsByRuleOne();
    }

    private static void mendsByRuleOne() {
        StairCodes x = new StairCodes();
        x.rule(1);
        x.flip(4, 5, 6);
        is("12: BLOCK K has no other WORD", x.mend(4, 5), 14);
        x.flip(2, 5, 6);
        is("12: the other WORD is ODD", x.mend(2, 5), 14);
        is("12: THE JOURNAL", x.journal(1), 2 * 64 + 5 * 8 + 6);
        // LABELS 3, 5, 0 make 6, PLACE 10: its other WORD 4, 2 is SOUND
        x.flip(3, 5, 0);
        x.flip(3, 5, 1);
        x.flip(3, 5, 3);
        long before = x.digest();
        refused("12: the WORD ahead is SOUND", x, before, x.mend(3, 5), StairCodes.DOUBT);
        is("12: no PLACE", x.word(3, 5, 4), StairCodes.NONE);
        x.flip(4, 2, 0);
        x.flip(4, 2, 1);
        is("12: the WORD ahead is STALLED", x.mend(3, 5), 10);
        x.blocks(4);
        // LABELS 1, 2, 4 make 7, PLACE 0: its other WORD 2, 0 is SOUND
        x.flip(3, 5, 4);
        x.flip(3, 5, 5);
        x.flip(3, 5, 6);
        refused("12: the WORD behind is SOUND", x, x.digest(), x.mend(3, 5), StairCodes.DOUBT);
        x.rule(0);
        is("12: RULE 0", x.mend(3, 5), 0);
        is("12: a BIT of the BLOCK behind", x.journal(0), 2 * 64 + 0 * 8 + 5);
        is("12: FALSE", x.count(5), 1);
    }

    private static void promise13() {
        StairCodes x = new StairCodes();
        // in BLOCK 2 of WORDS 3, c alone: odd i come first, so that they mend, not WORD 2, 0
        x.flip(2, 0, 3);
        x.flip(2, 0, 1);
        x.flip(2, 0, 0);
        is("13: turn", x.turn(1, 4), 3);
        is("13: by r", x.journal(0), 128);
        is("13: by r, next", x.journal(1), 129);
        is("13: by r, last", x.journal(2), 131);
        is("13: a turn of SOUND ones", x.turn(1, 4), 0);
        x.settle();
        x.flip(1, 2, 3);
        x.flip(3, 2, 3);
        x.flip(4, 6, 6);
        is("13: outside stays", x.turn(2, 2), 1);
        is("13: WORD 2, 3 mends BLOCK 1", x.journal(0), 64 + 2 * 8 + 3);
        is("13: one BLOCK", x.turn(4, 4), 2);
        is("13: by r, BLOCK 3", x.journal(1), 3 * 64 + 2 * 8 + 3);
        x.blocks(4);
        // a turn turns WORD 3's guess and WORD 4, 2 turns it back: two BITS, though none is left of it
        x.flip(3, 5, 0);
        x.flip(3, 5, 1);
        x.flip(3, 5, 3);
        is("13: turned and turned back", x.turn(3, 4), 5);
        is("13: none WRONG", x.count(1), 0);
        x.flip(2, 2, 2);
        long before = x.digest();
        int[][] bad = {{0, 1}, {1, 5}, {5, 5}, {3, 2}, {-1, -1}, {MIN, MAX}, {1, MAX}, {MIN, 1}, {4, 1}};
        for (int[] b : bad) {
            refused("13: turn " + b[0] + " " + b[1], x, before, x.turn(b[0], b[1]), StairCodes.BAD);
        }
    }

    private static void promise14() {
        StairCodes x = new StairCodes();
        is("14: nothing", x.window(1, 4, 9), 0);
        x.flip(2, 0, 0);
        is("14: one TURN", x.window(1, 2, 9), 1);
        is("14: mended", x.count(1), 0);
        chain(x);
        is("14: T at most", x.window(1, 4, 1), 1);
        is("14: some are left", x.count(1) > 0 ? 1 : 0, 1);
        is("14: the others", x.window(1, 4, 9) > 0 ? 1 : 0, 1);
        is("14: none left", x.count(1), 0);
        x.flip(4, 0, 0);
        is("14: of one BLOCK", x.window(4, 1, 1), 1);
        x.flip(2, 2, 2);
        long before = x.digest();
        int[][] bad = {{0, 2, 1}, {5, 1, 1}, {1, 0, 1}, {1, -1, 1}, {1, 5, 1}, {2, 4, 1}, {4, 2, 1}, {1, 2, 0}, {1, 2, 10},
            {MIN, 2, 1}, {MAX, 2, 1}, {1, MAX, 1}, {4, MAX, 1}, {1, MIN, 1}, {1, 2, MIN}, {1, 2, MAX}, {-1, 4, 3}};
        for (int[] b : bad) {
            refused("14: window " + b[0] + " " + b[1] + " " + b[2], x, before, x.window(b[0], b[1], b[2]), StairCodes.BAD);
        }
    }

    /** A path of WRONG BITS through WORDS 2, 0; 3, 0; 2, 1; 3, 1; 2, 2; 3, 2, which its ends alone can mend. */
    private static void chain(StairCodes x) {
        x.blocks(4);
        x.flip(2, 0, 0);
        x.flip(2, 1, 0);
        x.flip(2, 1, 1);
        x.flip(2, 2, 1);
        x.flip(2, 2, 2);
        x.flip(2, 0, 3);
        x.flip(2, 3, 3);
    }

    private static void promise15() {
        StairCodes x = new StairCodes();
        x.flip(1, 0, 0);
        x.flip(4, 0, 0);
        is("15: slide", x.slide(2, 1), 0);
        is("15: count", x.count(1), 0);
        is("15: from the first WINDOW on", x.journal(0), 64);
        is("15: to the last", x.journal(1), 256);
        x.flip(2, 1, 2);
        x.flip(2, 1, 6);
        x.flip(2, 4, 2);
        x.flip(2, 4, 6);
        is("15: stuck", x.slide(4, 9), 4);
        x.flip(3, 3, 3);
        long before = x.digest();
        int[][] bad = {{1, 1}, {0, 1}, {5, 1}, {2, 0}, {2, 10}, {MIN, 1}, {MAX, 1}, {2, MIN}, {2, MAX}};
        for (int[] b : bad) {
            refused("15: slide " + b[0] + " " + b[1], x, before, x.slide(b[0], b[1]), StairCodes.BAD);
        }
    }

    private static void promise16() {
        StairCodes x = new StairCodes();
        refused("16: undo", x, x.digest(), x.undo(), StairCodes.NOT);
        x.flip(1, 0, 0);
        x.flip(2, 3, 4);
        x.mend(1, 0);
        x.mend(2, 3);
        is("16: undo the latest", x.undo(), 1);
        is("16: it is turned", x.bit(2, 3, 4, 0), 1);
        is("16: the older one stays", x.journal(0), 64);
        is("16: undo the other", x.undo(), 0);
        is("16: WRONG", x.count(1), 2);
        is("16: not FALSE", x.count(5), 0);
        is("16: undo none", x.undo(), StairCodes.NOT);
    }

    private static void promise17() {
        StairCodes x = new StairCodes();
        is("17: none", x.back(), 0);
        x.flip(4, 0, 0);
        x.mend(4, 0);
        is("17: it helped", x.back(), 0);
        x.flip(4, 0, 1);
        is("17: its WORD is ODD again", x.back(), 1);
        is("17: it left", x.count(4), 0);
        is("17: it is turned back", x.bit(4, 0, 0, 2), 1);
        x.blocks(4);
        x.flip(2, 5, 6);
        x.mend(2, 5);
        x.flip(2, 5, 1);
        is("17: one WORD is SOUND", x.back(), 0);
        x.flip(2, 4, 6);
        is("17: none is", x.back(), 1);
        x.blocks(4);
        // the latest goes first, and makes the WORD SOUND that the older one needs
        x.flip(4, 1, 1);
        x.mend(4, 1);
        x.flip(4, 1, 2);
        x.mend(4, 1);
        x.flip(4, 1, 2);
        is("17: the latest first", x.back(), 1);
        is("17: the older one stays", x.journal(0), 256 + 9);
        is("17: WRONG", x.count(1), 0);
    }

    private static void promise18() {
        StairCodes x = new StairCodes();
        is("18: none", x.settle(), 0);
        x.flip(1, 0, 0);
        x.flip(1, 1, 0);
        x.turn(1, 1);
        is("18: settle", x.settle(), 2);
        is("18: empty", x.count(4), 0);
        is("18: BITS stay", x.count(1), 0);
        is("18: nothing to undo", x.undo(), StairCodes.NOT);
    }

    private static void promise19() {
        StairCodes x = new StairCodes();
        is("19: empty", x.journal(0), StairCodes.BAD);
        for (int n = 0; n < 60; n++) {
            x.flip(4, n / 8, n % 8);
            x.mend(4, n / 8);
        }
        is("19: sixty", x.count(4), 60);
        is("19: the oldest", x.journal(0), 256);
        is("19: the latest", x.journal(59), 256 + 59);
        x.flip(1, 2, 3);
        x.mend(1, 2);
        is("19: sixty still", x.count(4), 60);
        is("19: the oldest left", x.journal(0), 257);
        is("19: the latest is new", x.journal(59), 64 + 19);
        is("19: it is not in it", x.bit(4, 0, 0, 4), 0);
        is("19: undo", x.undo(), 59);
        is("19: the oldest does not come back", x.journal(0), 257);
        for (int k : new int[] {-1, 59, 60, MIN, MAX}) {
            is("19: journal " + k, x.journal(k), StairCodes.BAD);
        }
    }

    private static void promise20() {
        StairCodes x = new StairCodes();
        is("20: none", x.stall(0), StairCodes.BAD);
        x.flip(4, 7, 0);
        x.flip(4, 7, 1);
        x.flip(1, 0, 0);
        x.flip(1, 1, 0);
        is("20: the first", x.stall(0), 16);
        is("20: the second", x.stall(1), 39);
        for (int k : new int[] {-1, 2, MIN, MAX}) {
            is("20: stall " + k, x.stall(k), StairCodes.BAD);
        }
    }

    private static void promise21() {
        StairCodes x = new StairCodes();
        is("21: none", x.piece(0, 0), StairCodes.BAD);
        x.flip(4, 0, 0);
        x.flip(4, 0, 5);
        x.flip(1, 7, 7);
        x.flip(2, 7, 1);
        x.flip(2, 6, 6);
        // 1, 7, 7 and 2, 7, 1 have WORD 2, 7 in common; 2, 6, 6 is alone; two of BLOCK 4 are STUCK
        int[][] want = {{2, 3, 0, 127}, {1, 2, 0, 182}, {2, 1, 1, 256}};
        for (int k = 0; k < 3; k++) {
            for (int what = 0; what < 4; what++) {
                is("21: piece " + k + " " + what, x.piece(k, what), want[k][what]);
            }
        }
        int[][] bad = {{-1, 0}, {3, 0}, {0, -1}, {0, 4}, {MIN, 0}, {MAX, 0}, {0, MIN}, {0, MAX}};
        for (int[] b : bad) {
            is("21: piece " + b[0] + " " + b[1], x.piece(b[0], b[1]), StairCodes.BAD);
        }
        x.lots(0, 256);
        is("21: nearly all", x.piece(0, 0), 251);
        is("21: one piece", x.piece(1, 0), StairCodes.BAD);
        is("21: all WORDS", x.piece(0, 1), 32);
    }

    private static void promise22() {
        StairCodes x = new StairCodes();
        is("22: K 4, BLOCK 1", x.around(1, 0, 0), 105);
        is("22: K 4, BLOCK 2", x.around(2, 7, 7), 161);
        is("22: K 4, BLOCK 3", x.around(3, 3, 0), 105);
        is("22: K 4, BLOCK 4", x.around(4, 3, 0), 0);
        x.blocks(2);
        is("22: K 2, BLOCK 1", x.around(1, 0, 0), 49);
        is("22: K 2, BLOCK 2", x.around(2, 0, 0), 0);
        int[][] bad = {{0, 0, 0}, {3, 0, 0}, {1, -1, 0}, {1, 8, 0}, {1, 0, -1}, {1, 0, 8}, {MIN, 0, 0}, {1, MAX, 0}, {1, 0, MAX}};
        for (int[] b : bad) {
            is("22: around " + b[0] + " " + b[1] + " " + b[2], x.around(b[0], b[1], b[2]), StairCodes.BAD);
        }
    }

    private static void promise23() {
        StairCodes x = new StairCodes();
        // a WORD whose guess is wrong: by RULE 0 made at once, by RULE 1 doubted
        x.flip(4, 5, 0);
        x.flip(4, 5, 1);
        x.flip(4, 5, 3);
        long before = x.digest();
        is("23: RULE 0", x.would(2, 1, 0), 4);
        x.flip(4, 5, 3);
        x.flip(4, 5, 4);
        // 3, 5 and 1 make 7, PLACE 0: a BIT of BLOCK 3, whose other WORD is SOUND
        before = x.digest();
        is("23: RULE 0, BLOCK 3", x.would(4, 1, 0), 4);
        is("23: RULE 1", x.would(4, 1, 1), 3);
        is("23: nothing stays", x.digest(), before);
        is("23: no JOURNAL", x.count(4), 0);
        is("23: RULE stays", x.rule(0), 0);
        int[][] bad = {{1, 1, 0}, {5, 1, 0}, {2, 0, 0}, {2, 10, 0}, {2, 1, -1}, {2, 1, 2}, {MIN, 1, 0}, {MAX, 1, 0}, {2, MIN, 0}, {2, 1, MAX}};
        for (int[] b : bad) {
            refused("23: would " + b[0] + " " + b[1] + " " + b[2], x, before, x.would(b[0], b[1], b[2]), StairCodes.BAD);
        }
    }

    private static void promise24() {
        StairCodes x = new StairCodes();
        is("24: like ones", x.best(1), 2);
        int seen = 0;
        for (int seed = 1; seed <= 60; seed++) {
            x.blocks(6);
            x.lots(seed, 22);
            x.rule(seed & 1);
            long before = x.digest();
            int want = 2;
            for (int n = 3; n <= 6; n++) {
                want = x.would(n, 4, seed & 1) < x.would(want, 4, seed & 1) ? n : want;
            }
            seen |= 1 << want;
            is("24: best", x.best(4), want);
            is("24: nothing stays", x.digest(), before);
        }
        is("24: SIZES above 2 were best, too", Integer.bitCount(seen) >= 3 ? 1 : 0, 1);
        for (int turns : new int[] {0, 10, -1, MIN, MAX}) {
            is("24: best " + turns, x.best(turns), StairCodes.BAD);
        }
    }

    private static void promise25() {
        StairCodes x = new StairCodes();
        is("25: 0 items", x.sheet(0, 0, 0), 0);
        is("25: 64 items", x.sheet(3, 2, 64), 64);
        x.put(3, 2, 1, 5);
        is("25: a new one", x.sheet(3, 1, 2), 2);
        is("25: 0 at first", x.get(3, 1), 0);
        x.put(3, 1, 1, 5);
        long before = x.digest();
        int[][] bad = {{-1, 0, 1}, {4, 0, 1}, {3, -1, 1}, {3, 3, 1}, {3, 0, 65}, {3, 0, MAX}, {4, 0, -1}, {3, 3, -1}, {MIN, 0, 0}, {3, MAX, 0}};
        for (int[] b : bad) {
            refused("25: sheet " + b[0] + " " + b[1] + " " + b[2], x, before, x.sheet(b[0], b[1], b[2]), StairCodes.BAD);
        }
        is("25: BAD is no FINDING", x.count(8), 0);
        refused("25: SIZE", x, before, x.sheet(3, 0, -1), SIZE);
        refused("25: SIZE, least", x, before, x.sheet(3, 0, MIN), SIZE);
        is("25: it stays", x.get(3, 1), 5);
    }

    private static void promise26() {
        StairCodes x = new StairCodes();
        x.sheet(1, 0, 33);
        is("26: lose", x.lose(1), 33);
        long before = x.digest();
        refused("26: lose again", x, before, x.lose(1), NULL);
        is("26: LOST", x.get(1, 0), Long.MIN_VALUE + 11);
        for (int s : new int[] {-1, 4, MIN, MAX}) {
            refused("26: lose " + s, x, before, x.lose(s), StairCodes.BAD);
        }
        x.sheet(1, 2, 0);
        is("26: none", x.lose(1), 0);
    }

    private static void promise27() {
        StairCodes x = new StairCodes();
        x.sheet(0, 0, 2);
        x.sheet(1, 1, 2);
        x.sheet(2, 2, 2);
        is("27: truth", x.put(0, 0, 1, -3), 1);
        is("27: true", x.get(0, 1), 1);
        is("27: truth again", x.put(0, 0, 1, MIN), 1);
        is("27: false", x.get(0, 1), 0);
        is("27: long", x.put(1, 1, 0, MIN), 1);
        is("27: long's item", x.get(1, 0), MIN);
        is("27: int", x.put(2, 2, 1, MAX), 1);
        is("27: int's item", x.get(2, 1), MAX);
        long before = x.digest();
        refused("27: SHEET", x, before, x.put(4, 0, 0, 1), StairCodes.BAD);
        refused("27: SHEET below", x, before, x.put(-1, 0, 0, 1), StairCodes.BAD);
        refused("27: FORM", x, before, x.put(0, 3, 0, 1), StairCodes.BAD);
        refused("27: FORM below", x, before, x.put(0, -1, 0, 1), StairCodes.BAD);
        refused("27: FORM ahead of NULL", x, before, x.put(3, 3, 0, 1), StairCodes.BAD);
        refused("27: NULL ahead of CAST, INDEX", x, before, x.put(3, 0, -1, 1), NULL);
        refused("27: CAST ahead of INDEX", x, before, x.put(1, 0, 2, 1), CAST);
        refused("27: CAST of ints", x, before, x.put(2, 1, 0, 1), CAST);
        refused("27: INDEX", x, before, x.put(1, 1, 2, 1), INDEX);
        refused("27: INDEX below", x, before, x.put(1, 1, -1, 1), INDEX);
        refused("27: INDEX, least", x, before, x.put(1, 1, MIN, 1), INDEX);
        is("27: nothing changed", x.get(2, 0), 0);
    }

    private static void promise28() {
        StairCodes x = new StairCodes();
        x.sheet(0, 2, 3);
        x.put(0, 2, 2, -1);
        is("28: get", x.get(0, 2), -1);
        is("28: SHEET", x.get(4, 0), Long.MIN_VALUE + 2);
        is("28: SHEET below", x.get(-1, 0), Long.MIN_VALUE + 2);
        is("28: no FINDING", x.count(8), 0);
        is("28: NULL", x.get(1, 9), Long.MIN_VALUE + 11);
        is("28: FINDING 1", x.count(8), 1);
        is("28: INDEX", x.get(0, 3), Long.MIN_VALUE + 12);
        is("28: INDEX below", x.get(0, MIN), Long.MIN_VALUE + 12);
        is("28: INDEX above", x.get(0, MAX), Long.MIN_VALUE + 12);
        is("28: FINDING 2", x.count(8), 2);
        x.sheet(0, 2, 0);
        is("28: no items", x.get(0, 0), Long.MIN_VALUE + 12);
    }

    private static void promise29() {
        StairCodes x = new StairCodes();
        x.sheet(0, 2, 6);
        x.sheet(1, 2, 3);
        x.sheet(2, 1, 3);
        for (int i = 0; i < 6; i++) {
            x.put(0, 2, i, 10 + i);
        }
        is("29: copy", x.copy(0, 3, 1, 0, 3), 1);
        is("29: copied", x.get(1, 2), 15);
        is("29: onward, as they were", x.copy(0, 0, 0, 1, 5), 1);
        is("29: last", x.get(0, 5), 14);
        is("29: first", x.get(0, 0), 10);
        is("29: backward, as they were", x.copy(0, 1, 0, 0, 5), 1);
        is("29: last again", x.get(0, 4), 14);
        is("29: none, at the ends", x.copy(0, 6, 1, 3, 0), 1);
        long before = x.digest();
        refused("29: SHEET s", x, before, x.copy(4, 0, 1, 0, 1), StairCodes.BAD);
        refused("29: SHEET t", x, before, x.copy(3, 0, -1, 0, 1), StairCodes.BAD);
        refused("29: NULL s", x, before, x.copy(3, 0, 2, 9, 1), NULL);
        refused("29: NULL t", x, before, x.copy(2, -1, 3, 0, 1), NULL);
        refused("29: STORE ahead of INDEX", x, before, x.copy(0, -1, 2, 0, 1), STORE);
        refused("29: STORE of none", x, before, x.copy(2, 0, 0, 0, 0), STORE);
        int[][] bad = {{-1, 0, 1}, {0, -1, 1}, {0, 0, -1}, {4, 0, 3}, {0, 1, 3}, {7, 0, 0}, {0, 4, 0}, {0, 0, 4},
            {1, 0, MAX}, {MAX, 0, MAX}, {MAX, MAX, 1}, {0, 0, MIN}, {MIN, MIN, MIN}, {0, MAX, 1}};
        for (int[] b : bad) {
            refused("29: copy " + b[0] + " " + b[1] + " " + b[2], x, before, x.copy(0, b[0], 1, b[1], b[2]), INDEX);
        }
        is("29: nothing changed", x.get(1, 0), 13);
    }

    private static void promise30() {
        StairCodes x = new StairCodes();
        x.flip(2, 0, 0);
        x.flip(2, 1, 1);
        x.flip(2, 7, 7);
        x.sheet(0, 0, 10);
        x.sheet(1, 1, 64);
        x.sheet(2, 2, 64);
        x.put(0, 0, 1, 1);
        x.put(1, 1, 1, 8);
        x.put(2, 2, 62, 8);
        is("30: truths", x.write(2, 0), 10);
        is("30: true", x.get(0, 9), 1);
        is("30: false now", x.get(0, 1), 0);
        is("30: longs", x.write(2, 1), 1);
        is("30: all of it", x.get(1, 0), x.block(2));
        is("30: the second stays", x.get(1, 1), 8);
        is("30: ints", x.write(2, 2), 64);
        is("30: last", x.get(2, 63), 1);
        is("30: last but one", x.get(2, 62), 0);
        is("30: nothing is turned", x.count(1), 3);
        x.sheet(1, 1, 0);
        is("30: no longs", x.write(2, 1), 0);
        x.sheet(0, 0, 0);
        is("30: no truths", x.write(2, 0), 0);
        long before = x.digest();
        int[][] bad = {{0, 0}, {5, 0}, {1, -1}, {1, 4}, {0, 3}, {MIN, MIN}, {MAX, MAX}};
        for (int[] b : bad) {
            refused("30: write " + b[0] + " " + b[1], x, before, x.write(b[0], b[1]), StairCodes.BAD);
        }
        refused("30: NULL", x, before, x.write(1, 3), NULL);
    }

    private static void promise31() {
        StairCodes x = new StairCodes();
        x.blocks(3);
        x.flip(1, 0, 0);
        x.flip(1, 0, 1);
        x.flip(1, 0, 3);
        x.mend(1, 0);
        x.flip(3, 4, 5);
        x.flip(3, 4, 6);
        x.lose(2);
        // WORD 1, 0 is SOUND with four WRONG ones, one of them FALSE; 2, 0 to 2, 3 are ODD; 3, 4 is STALLED
        int[] want = {3, 6, 5, 1, 1, 1, 2, 1, 1};
        for (int what = 0; what <= 8; what++) {
            is("31: count " + what, x.count(what), want[what]);
        }
        for (int what : new int[] {-1, 9, MIN, MAX}) {
            is("31: count " + what, x.count(what), StairCodes.BAD);
        }
    }

    private static void promise32() {
        StairCodes x = new StairCodes();
        x.data(2, 2, 3);
        x.flip(1, 0, 0);
        x.flip(1, 0, 1);
        x.flip(3, 1, 1);
        x.mend(3, 1);
        x.lose(0);
        long h = 17;
        for (int what = 0; what < 8; what++) {
            h = 31 * h + x.count(what);
        }
        for (int i = 1; i <= 4; i++) {
            h = 31 * h + x.block(i);
            for (int n = 0; n < 24; n++) {
                h = 31 * h + x.row(i, n / 3, n % 3 + 1);
            }
            for (int n = 0; n < 40; n++) {
                h = 31 * h + x.word(i, n / 5, n % 5);
            }
        }
        h = 31 * h + 3 * 64 + 9;
        h = 31 * h + 8;
        h = (31 * h + 2) * 31 + 3;
        h = (31 * h + 0) * 31 + 64;
        h = (31 * h + x.would(2, 3, 0)) * 31 + x.would(2, 3, 1);
        h = (31 * h + x.would(4, 9, 0)) * 31 + x.best(3);
        h = (31 * h + 105) * 31 + 161;
        is("32: digest", x.digest(), h);
        is("32: once more", x.digest(), h);
        x.lose(4);
        x.get(1, 1);
        x.rule(0);
        is("32: FINDINGS are not in it", x.digest(), h);
    }

    public static void main(String[] args) {
        promise1();
        promise2();
        promise3();
        promise4();
        promise5();
        promise6();
        promise7();
        promise8();
        promise9();
        promise10();
        promise11();
        promise12();
        promise13();
        promise14();
        promise15();
        promise16();
        promise17();
        promise18();
        promise19();
        promise20();
        promise21();
        promise22();
        promise23();
        promise24();
        promise25();
        promise26();
        promise27();
        promise28();
        promise29();
        promise30();
        promise31();
        promise32();
        Due.end();
    }
}
