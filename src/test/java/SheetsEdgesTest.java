/** Promises 25 to 32, with SHEETS and FINDINGS: each sentence that names an edge has a method of its own. */
public final class SheetsEdgesTest {
    private static final int MIN = Integer.MIN_VALUE, MAX = Integer.MAX_VALUE;
    private static final int BAD = -2, NULL = -11, INDEX = -12, CAST = -13, STORE = -14, SIZE = -15;
    private static final long LEAST = Long.MIN_VALUE;

    private static void is(String call, long got, long want) {
        Due.is(call, got, want);
    }

    /** "SHEETS 0 .. 3", "FORM: 0 truths, 1 longs, 2 ints, of 0 to 64 items" */
    private static void sheetsAtTheEnds() {
        for (int s = 0; s < 4; s++) {
            for (int form = 0; form < 3; form++) {
                for (int n : new int[] {0, 1, 63, 64}) {
                    StairCodes x = new StairCodes();
                    String told = "25: SHEET " + s + " of FORM " + form + ", " + n;
                    is(told, x.sheet(s, form, n), n);
                    is(told + ", item n", x.get(s, n), LEAST + 12);
                    is(told + ", the last item", x.get(s, n - 1), n == 0 ? LEAST + 12 : 0);
                    is(told + ", others", x.get((s + 1) % 4, 0), LEAST + 11);
                    is(told + ", lost", x.lose(s), n);
                }
            }
        }
        StairCodes x = new StairCodes();
        is("25: SHEET -1", x.sheet(-1, 0, 0), BAD);
        is("25: SHEET 4", x.sheet(4, 0, 0), BAD);
        is("25: FORM -1", x.sheet(0, -1, 0), BAD);
        is("25: FORM 3", x.sheet(0, 3, 0), BAD);
        is("25: 65", x.sheet(0, 0, 65), BAD);
        is("25: far above", x.sheet(0, 0, MAX), BAD);
        is("25: no FINDING", x.count(8), 0);
        is("25: LOST still", x.lose(0), NULL);
    }

    /** 25: "BAD: SHEET, FORM, above 64; SIZE": below 0, behind the others. */
    private static void sheetOfLessThanNone() {
        StairCodes x = new StairCodes();
        is("25: SHEET ahead of SIZE", x.sheet(4, 0, -1), BAD);
        is("25: FORM ahead of SIZE", x.sheet(0, 3, -1), BAD);
        is("25: no FINDING", x.count(8), 0);
        is("25: -1", x.sheet(0, 0, -1), SIZE);
        is("25: FINDING 5", x.count(8), 5);
        is("25: LOST still", x.lose(0), NULL);
        x.sheet(0, 2, 2);
        x.put(0, 2, 1, 7);
        is("25: least", x.sheet(0, 1, MIN), SIZE);
        is("25: as it was", x.get(0, 1), 7);
        is("25: of its FORM", x.put(0, 2, 0, 1), 1);
    }

    /** "a row of a FORM .. (false, 0 at first)": a new one has nothing of the one before. */
    private static void newRowsAreZero() {
        StairCodes x = new StairCodes();
        for (int form = 0; form < 3; form++) {
            x.sheet(1, form, 64);
            for (int n = 0; n < 64; n++) {
                x.put(1, form, n, -1);
            }
            x.sheet(1, form, 3);
            is("25: shorter", x.get(1, 2), 0);
            is("25: its end", x.get(1, 3), LEAST + 12);
            x.sheet(1, form, 64);
            is("25: longer", x.get(1, 2) + x.get(1, 3) + x.get(1, 63), 0);
            x.put(1, form, 63, 1);
            x.lose(1);
            x.sheet(1, form, 64);
            is("25: lost, and new", x.get(1, 63), 0);
        }
    }

    /** 26: "how many items it had. BAD; NULL." */
    private static void loseOnce() {
        StairCodes x = new StairCodes();
        is("26: LOST at first", x.lose(0), NULL);
        x.sheet(0, 1, 0);
        is("26: none", x.lose(0), 0);
        is("26: again", x.lose(0), NULL);
        x.sheet(3, 0, 64);
        is("26: all", x.lose(3), 64);
        is("26: SHEET 4", x.lose(4), BAD);
        is("26: SHEET -1", x.lose(-1), BAD);
        is("26: put", x.put(3, 0, 0, 1), NULL);
        is("26: get", x.get(3, 0), LEAST + 11);
        is("26: copy", x.copy(3, 0, 3, 0, 0), NULL);
        is("26: read", x.read(1, 3), NULL);
        is("26: write", x.write(1, 3), NULL);
    }

    /** 27: "becomes v (a truth true, if v is odd): 1" */
    private static void putOfEachForm() {
        StairCodes x = new StairCodes();
        int[] values = {0, 1, 2, -1, -2, MAX, MIN, MIN + 1};
        for (int form = 0; form < 3; form++) {
            x.sheet(form, form, 64);
            for (int v : values) {
                is("27: put " + v, x.put(form, form, 63, v), 1);
                is("27: of FORM " + form, x.get(form, 63), form == 0 ? v & 1 : v);
            }
            is("27: item 0 stays", x.get(form, 0), 0);
            is("27: put to item 0", x.put(form, form, 0, 1), 1);
        }
    }

    /** 27: "BAD; NULL; CAST; INDEX": the first that fits. */
    private static void putRefusesInOrder() {
        StairCodes x = new StairCodes();
        x.sheet(0, 0, 2);
        x.sheet(1, 1, 0);
        is("27: SHEET", x.put(4, 0, 5, 1), BAD);
        is("27: FORM of a LOST one", x.put(3, 3, 5, 1), BAD);
        is("27: FORM ahead of CAST", x.put(0, -1, 5, 1), BAD);
        is("27: no FINDING", x.count(8), 0);
        is("27: NULL ahead of INDEX", x.put(3, 0, -1, 1), NULL);
        is("27: 1", x.count(8), 1);
        is("27: CAST ahead of INDEX", x.put(0, 1, 2, 1), CAST);
        is("27: 3", x.count(8), 3);
        is("27: CAST to ints", x.put(0, 2, 0, 1), CAST);
        is("27: INDEX", x.put(0, 0, 2, 1), INDEX);
        is("27: 2", x.count(8), 2);
        is("27: INDEX below", x.put(0, 0, -1, 1), INDEX);
        is("27: INDEX of none", x.put(1, 1, 0, 1), INDEX);
        is("27: CAST of none", x.put(1, 2, 0, 1), CAST);
        is("27: nothing is put", x.get(0, 0) + x.get(0, 1), 0);
    }

    /** 28: "BAD; NULL; INDEX", as the least long and 2, 11, 12 more; an item may look like that. */
    private static void getRefusals() {
        StairCodes x = new StairCodes();
        is("28: BAD", x.get(4, 0), LEAST + 2);
        is("28: BAD below", x.get(-1, -1), LEAST + 2);
        is("28: NULL", x.get(3, -1), LEAST + 11);
        x.sheet(3, 1, 1);
        is("28: INDEX below", x.get(3, -1), LEAST + 12);
        is("28: INDEX", x.get(3, 1), LEAST + 12);
        is("28: FINDING", x.count(8), 2);
        is("28: first and last", x.get(3, 0), 0);
        x.flip(1, 7, 7);
        x.flip(1, 0, 1);
        x.write(1, 3);
        is("28: an item", x.get(3, 0), LEAST + 2);
        x.lose(2);
        is("28: an item is no FINDING", x.get(3, 0) == LEAST + 2 ? x.count(8) : -1, 1);
    }

    private static StairCodes withInts(int size) {
        StairCodes x = new StairCodes();
        x.sheet(0, 2, size);
        for (int n = 0; n < size; n++) {
            x.put(0, 2, n, 100 + n);
        }
        return x;
    }

    /** 29: "(perhaps s, as they were)": ahead and behind, all of it, none of it. */
    private static void copyWithinASheet() {
        for (int i = 0; i <= 6; i++) {
            for (int j = 0; j <= 6; j++) {
                for (int n = 0; n <= 6 - Math.max(i, j); n++) {
                    StairCodes x = withInts(6);
                    String told = "29: " + i + " to " + j + ", " + n;
                    is(told, x.copy(0, i, 0, j, n), 1);
                    for (int at = 0; at < 6; at++) {
                        boolean came = at >= j && at < j + n;
                        is(told + ", item " + at, x.get(0, at), 100 + (came ? at - j + i : at));
                    }
                }
            }
        }
    }

    /** 29: "INDEX: i, j or n below 0, not so many there (of n 0, too: i or j above the size)" */
    private static void copyRefusesByIndex() {
        for (int i = -1; i <= 7; i++) {
            for (int j = -1; j <= 4; j++) {
                for (int n = -1; n <= 7; n++) {
                    StairCodes x = withInts(6);
                    x.sheet(1, 2, 3);
                    boolean fits = i >= 0 && j >= 0 && n >= 0 && i + n <= 6 && j + n <= 3;
                    String told = "29: " + i + ", " + j + ", " + n;
                    is(told, x.copy(0, i, 1, j, n), fits ? 1 : INDEX);
                    is(told + ", FINDING", x.count(8), fits ? 0 : 2);
                    is(told + ", item", x.get(1, 0), fits && j == 0 && n > 0 ? 100 + i : 0);
                }
            }
        }
    }

    /** 29: sums of i or j and n that wrap are not small. */
    private static void copyRefusesWhatWraps() {
        StairCodes x = withInts(6);
        int[][] far = {{MAX, 0, MAX}, {1, 0, MAX}, {0, 1, MAX}, {MAX, 0, 1}, {0, MAX, 1}, {MIN, 0, MIN}, {MIN, MIN, 0},
            {0, 0, MIN}, {1, 1, MIN}, {MAX, MAX, MIN}, {MAX, MAX, 2}, {MAX, MAX, 0}, {-1, -1, 1}};
        for (int[] b : far) {
            is("29: " + b[0] + ", " + b[1] + ", " + b[2], x.copy(0, b[0], 0, b[1], b[2]), INDEX);
        }
        for (int n = 0; n < 6; n++) {
            is("29: item " + n, x.get(0, n), 100 + n);
        }
    }

    /** 29: "BAD: the SHEETS; NULL: s, t; STORE; INDEX": the first that fits. */
    private static void copyRefusesInOrder() {
        StairCodes x = withInts(6);
        x.sheet(1, 1, 6);
        x.sheet(2, 0, 6);
        is("29: s", x.copy(-1, 0, 3, 0, 1), BAD);
        is("29: t", x.copy(3, 0, 4, 0, 1), BAD);
        is("29: no FINDING", x.count(8), 0);
        is("29: s LOST", x.copy(3, -1, 0, 0, 1), NULL);
        is("29: t LOST", x.copy(0, -1, 3, 0, 1), NULL);
        is("29: 1", x.count(8), 1);
        for (int s = 0; s < 3; s++) {
            for (int t = 0; t < 3; t++) {
                is("29: FORMS", x.copy(s, 0, t, 0, 6), s == t ? 1 : STORE);
                is("29: FORMS, none", x.copy(s, 6, t, 6, 0), s == t ? 1 : STORE);
                is("29: FORMS, INDEX", x.copy(s, 0, t, 0, 7), s == t ? INDEX : STORE);
            }
        }
        x.copy(1, 0, 2, 0, 0);
        is("29: 4", x.count(8), 4);
        is("29: nothing came", x.get(1, 0) + x.get(2, 0), 0);
    }

    /** 29: rows of no items; longs and truths keep what they are. */
    private static void copyOfEmptyAndOfLongs() {
        StairCodes x = new StairCodes();
        x.sheet(0, 1, 0);
        x.sheet(1, 1, 64);
        is("29: none of none", x.copy(0, 0, 0, 0, 0), 1);
        is("29: none of none to the end", x.copy(0, 0, 1, 64, 0), 1);
        is("29: one of none", x.copy(0, 0, 1, 0, 1), INDEX);
        is("29: above none", x.copy(0, 1, 1, 0, 0), INDEX);
        is("29: above the end", x.copy(0, 0, 1, 65, 0), INDEX);
        x.lots(2, 128);
        x.write(2, 1);
        is("29: a long", x.copy(1, 0, 1, 63, 1), 1);
        is("29: all of it", x.get(1, 63), x.block(2));
        x.sheet(2, 0, 2);
        x.sheet(3, 0, 2);
        x.put(2, 0, 1, 1);
        x.put(3, 0, 0, 1);
        is("29: truths", x.copy(2, 0, 3, 0, 2), 1);
        is("29: false", x.get(3, 0), 0);
        is("29: true", x.get(3, 1), 1);
    }

    /** 30: "as many as there are items; of longs the first item alone" */
    private static void writeEndsWithTheItems() {
        for (int size : new int[] {0, 1, 8, 9, 63, 64}) {
            for (int form = 0; form < 3; form++) {
                StairCodes x = new StairCodes();
                x.lots(size, 128);
                x.sheet(3, form, size);
                for (int n = 0; n < size; n++) {
                    x.put(3, form, n, 5);
                }
                String told = "30: " + size + " of FORM " + form;
                is(told, x.write(4, 3), form == 1 ? Math.min(size, 1) : size);
                for (int n = 0; n < size; n++) {
                    long want = form != 1 ? x.block(4) >>> n & 1 : n == 0 ? x.block(4) : 5;
                    is(told + ", item " + n, x.get(3, n), want);
                }
                is(told + ", its end", x.get(3, size), LEAST + 12);
            }
        }
    }

    /** 30: "BITS of a BLOCK, NOW": not SENT; "BAD; NULL". */
    private static void writeTellsNow() {
        StairCodes x = new StairCodes();
        x.data(1, 0, 7);
        x.flip(1, 0, 1);
        x.sheet(0, 2, 3);
        is("30: write", x.write(1, 0), 3);
        is("30: SENT", x.get(0, 0), 1);
        is("30: WRONG", x.get(0, 1), 0);
        is("30: BLOCK 0", x.write(0, 0), BAD);
        is("30: BLOCK 5", x.write(5, 0), BAD);
        is("30: SHEET 4", x.write(1, 4), BAD);
        is("30: BLOCK 0 to a LOST one", x.write(0, 1), BAD);
        is("30: no FINDING", x.count(8), 0);
        is("30: LOST", x.write(1, 1), NULL);
        is("30: FINDING", x.count(8), 1);
        is("30: as it was", x.get(0, 0), 1);
    }

    /** "FINDINGS (answers -10 less the number; they change nothing but count() 8)": each, the latest. */
    private static void findingsAreTold() {
        StairCodes x = new StairCodes();
        x.sheet(0, 0, 1);
        x.sheet(1, 1, 1);
        is("31: 0 before any", x.count(8), 0);
        is("31: SIZE", x.sheet(2, 0, -1), SIZE);
        is("31: 5", x.count(8), 5);
        is("31: STORE", x.copy(0, 0, 1, 0, 1), STORE);
        is("31: 4", x.count(8), 4);
        is("31: CAST", x.put(0, 1, 0, 1), CAST);
        is("31: 3", x.count(8), 3);
        is("31: INDEX", x.put(0, 0, 1, 1), INDEX);
        is("31: 2", x.count(8), 2);
        is("31: NULL", x.lose(2), NULL);
        is("31: 1", x.count(8), 1);
        is("31: BAD is none", x.lose(4), BAD);
        is("31: NOT is none", x.undo(), StairCodes.NOT);
        x.flip(4, 0, 0);
        x.flip(4, 0, 1);
        is("31: STALL is none", x.mend(4, 0), StairCodes.STALL);
        is("31: what succeeds is none", x.lose(0), 1);
        x.blocks(3);
        is("31: still", x.count(8), 1);
    }

    /** 31: "0 K .. 8", none to all. */
    private static void countAtTheEnds() {
        for (int k = 2; k <= 6; k++) {
            StairCodes x = new StairCodes();
            x.blocks(k);
            int[] none = {k, 0, 0, 0, 0, 0, 0, 0, 0};
            for (int what = 0; what <= 8; what++) {
                is("31: none, " + what, x.count(what), none[what]);
            }
            x.lots(1, 256);
            // WORDS 1, r are STALLED; the others have all 16 WRONG, and are SOUND
            int[] all = {k, 64 * k, 8, 8, 0, 0, 1, 1, 0};
            for (int what = 0; what <= 8; what++) {
                is("31: all, " + what, x.count(what), all[what]);
            }
            is("31: -1", x.count(-1), BAD);
            is("31: 9", x.count(9), BAD);
        }
    }

    /** 31: each is told by itself, whatever was asked before. */
    private static void countAsksNothingElse() {
        StairCodes x = new StairCodes();
        x.flip(4, 0, 0);
        x.flip(4, 0, 1);
        is("31: STUCK", x.count(7), 1);
        x.flip(4, 0, 1);
        is("31: not STUCK", x.count(7), 0);
        x.flip(4, 1, 1);
        is("31: PIECES", x.count(6), 2);
        x.flip(4, 0, 1);
        x.flip(4, 1, 2);
        is("31: two STUCK", x.count(7), 2);
        x.flip(4, 1, 1);
        x.flip(4, 1, 2);
        is("31: one STUCK", x.count(7), 1);
        is("31: one PIECE", x.count(6), 1);
        is("31: no second one", x.piece(1, 2), BAD);
        x.flip(4, 0, 0);
        x.flip(4, 0, 1);
        is("31: none STUCK", x.count(7), 0);
        is("31: none", x.piece(0, 2), BAD);
    }

    /** 32: "would(2, 3, 0), would(2, 3, 1), would(K, 9, 0), best(3)": where other T would leave others. */
    private static void digestOfManyStates() {
        int unlike = digestIsAsCalls("32: a long path", States.longPath(), 6);
        for (int seed = 1; seed <= 60; seed++) {
            int k = 4 + seed % 3;
            StairCodes x = States.ofBlocks(k);
            x.lots(seed, 14 + seed % 16);
            unlike |= digestIsAsCalls("32: seed " + seed, x, k);
        }
        // of this seed the fourth TURN mends some
        StairCodes x = States.ofBlocks(3);
        x.lots(136, 20);
        unlike |= digestIsAsCalls("32: seed 136", x, 3);
        is("32: they were unlike", unlike, 255);
    }

    /** Which answers would be others, if other T were asked, as one bit each; and whether WORD 1, 0 is STALLED. */
    private static int digestIsAsCalls(String told, StairCodes x, int k) {
        is(told, x.digest(), digestByCalls(x, k));
        int unlike = x.would(2, 3, 0) != x.would(2, 2, 0) ? 1 : 0;
        unlike |= x.would(2, 3, 0) != x.would(2, 4, 0) ? 2 : 0;
        unlike |= x.would(2, 3, 1) != x.would(2, 2, 1) ? 4 : 0;
        unlike |= x.would(2, 3, 1) != x.would(2, 4, 1) ? 8 : 0;
        unlike |= x.would(k, 9, 0) != x.would(k, 8, 0) ? 16 : 0;
        unlike |= x.best(3) != x.best(2) ? 32 : 0;
        unlike |= x.best(3) != x.best(4) ? 64 : 0;
        unlike |= x.word(1, 0, 2) == 1 ? 128 : 0;
        return unlike;
    }

    /** 32: of each K, from calls; FINDINGS and SHEETS are not in it. */
    private static void digestOfEachK() {
        for (int k = 2; k <= 6; k++) {
            StairCodes x = new StairCodes();
            x.blocks(k);
            x.data(k, 7, 5);
            x.lots(k, 20);
            x.turn(1, k);
            long want = digestByCalls(x, k);
            is("32: K " + k, x.digest(), want);
            x.sheet(0, 0, 3);
            x.lose(1);
            is("32: with a SHEET and a FINDING", x.digest(), want);
        }
    }

    private static long digestByCalls(StairCodes x, int k) {
        long h = 17;
        for (int what = 0; what <= 7; what++) {
            h = 31 * h + x.count(what);
        }
        for (int i = 1; i <= k; i++) {
            h = 31 * h + x.block(i);
            for (int n = 0; n < 24; n++) {
                h = 31 * h + x.row(i, n / 3, 1 + n % 3);
            }
            for (int n = 0; n < 40; n++) {
                h = 31 * h + x.word(i, n / 5, n % 5);
            }
        }
        int[] sizes = {x.count(4), x.count(3), x.count(6)};
        for (int n = 0; n < sizes[0]; n++) {
            h = 31 * h + x.journal(n);
        }
        for (int n = 0; n < sizes[1]; n++) {
            h = 31 * h + x.stall(n);
        }
        for (int n = 0; n < 4 * sizes[2]; n++) {
            h = 31 * h + x.piece(n / 4, n % 4);
        }
        long[] last = {x.would(2, 3, 0), x.would(2, 3, 1), x.would(k, 9, 0), x.best(3), x.around(1, 0, 0), x.around(2, 3, 4)};
        for (long each : last) {
            h = 31 * h + each;
        }
        return h;
    }

    public static void main(String[] args) {
        sheetsAtTheEnds();
        sheetOfLessThanNone();
        newRowsAreZero();
        loseOnce();
        putOfEachForm();
        putRefusesInOrder();
        getRefusals();
        copyWithinASheet();
        copyRefusesByIndex();
        copyRefusesWhatWraps();
        copyRefusesInOrder();
        copyOfEmptyAndOfLongs();
        writeEndsWithTheItems();
        writeTellsNow();
        findingsAreTold();
        countAtTheEnds();
        countAsksNothingElse();
        digestOfManyStates();
        digestOfEachK();
        Due.end();
    }
}
