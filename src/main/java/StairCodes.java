import java.util.Arrays;

/**
 * Stairs of product codes: see the project's document for what each call promises.
 *
 * Inside, a BIT is one number, 64 BLOCK + 8 ROW + COLUMN, and a WORD is 8 i + r, so that a BIT's
 * first WORD is the BIT's number without its lowest three bits.
 */
public final class StairCodes {
    public static final int NONE = -1, BAD = -2, NOT = -3, FULL = -4, DOUBT = -5, STALL = -6;

    private static final int NULL = -11, INDEX = -12, CAST = -13, STORE = -14, SIZE = -15;

    private static final int LEAST_BLOCKS = 2, MOST_BLOCKS = 6, BLOCKS_AT_FIRST = 4;
    private static final int LEAST_SLIDE_SIZE = 2, MOST_TURNS = 9;
    private static final int MOST_LOTS = 256;
    private static final int MOST_MENDS = 60;
    private static final int SHEETS = 4, FORMS = 3, MOST_ITEMS = 64;
    private static final int TRUTHS = 0, LONGS = 1;
    private static final int ALL_WORDS = 8 * (MOST_BLOCKS + 1);
    private static final long COLUMN_0 = 0x0101010101010101L;

    private static final int[] LABELS = {7, 9, 10, 11, 12, 13, 14, 15, 3, 5, 6, 0, 1, 2, 4, 8};
    private static final int[] PLACE_OF_LABEL = {11, 12, 13, 8, 14, 9, 10, 0, 15, 1, 2, 3, 4, 5, 6, 7};

    private final Stairs stairs;
    private final Stairs trial;
    private final Sent sent;
    private final long[] hit;
    private final Journal journal;
    private final Pieces pieces;
    private final Sheet[] sheets;
    private int rule;
    private int latestFinding;

    public StairCodes() {
        stairs = new Stairs();
        trial = new Stairs();
        sent = new Sent();
        hit = new long[MOST_BLOCKS + 1];
        journal = new Journal();
        pieces = new Pieces();
        sheets = new Sheet[SHEETS];
        for (int s = 0; s < SHEETS; s++) {
            sheets[s] = new Sheet();
        }
        rule = 0;
        latestFinding = 0;
    }

    // ---- blocks, what is sent, what is hit

    public int blocks(int k) {
        if (k < LEAST_BLOCKS || k > MOST_BLOCKS) {
            return BAD;
        }
        int was = stairs.blocks;
        stairs.clear(k);
        sent.clear();
        Arrays.fill(hit, 0L);
        journal.clear();
        return was;
    }

    public int data(int i, int r, int v) {
        if (!isWord(i, r) || !isOctal(v)) {
            return BAD;
        }
        int was = sent.data[8 * i + r];
        sent.change(8 * i + r, v, stairs.blocks);
        return was;
    }

    public int flip(int i, int r, int c) {
        if (!isBit(i, r, c)) {
            return BAD;
        }
        hitBit(bitNumber(i, r, c));
        return stairs.wrongBits();
    }

    public int lots(int seed, int n) {
        if (n < 0 || n > MOST_LOTS) {
            return BAD;
        }
        int lot = seed;
        int turned = 0;
        int end = bitNumber(stairs.blocks + 1, 0, 0);
        for (int bit = bitNumber(1, 0, 0); bit < end; bit++) {
            lot = 1103515245 * lot + 12345;
            if (((lot >>> 16) & 255) < n) {
                hitBit(bit);
                turned++;
            }
        }
        return turned;
    }

    public int read(int i, int s) {
        if (!isBlock(i) || !isSheet(s)) {
            return BAD;
        }
        Sheet sheet = sheets[s];
        if (sheet.lost) {
            return finding(NULL);
        }
        int turned = 0;
        for (int item = 0; item < sheet.size; item++) {
            if (sheet.items[item] != 0L) {
                hitBit(64 * i + item);
                turned++;
            }
        }
        return turned;
    }

    public int rule(int v) {
        if (!isRule(v)) {
            return BAD;
        }
        int was = rule;
        rule = v;
        return was;
    }

    public int bit(int i, int r, int c, int what) {
        if (!isBit(i, r, c)) {
            return BAD;
        }
        int place = 8 * r + c;
        switch (what) {
            case 0:
                return bitOf(now(i), place);
            case 1:
                return bitOf(sent.bits[i], place);
            case 2:
                return bitOf(stairs.wrong[i], place);
            case 3:
                return bitOf(hit[i], place);
            case 4:
                return journal.timesOf(bitNumber(i, r, c));
            default:
                return BAD;
        }
    }

    public int row(int i, int r, int what) {
        if (!isWord(i, r)) {
            return BAD;
        }
        switch (what) {
            case 0:
                return rowOf(now(i), r);
            case 1:
                return rowOf(sent.bits[i], r);
            case 2:
                return rowOf(now(i), r) & 7;
            case 3:
                return sent.data[8 * i + r];
            default:
                return BAD;
        }
    }

    public long block(int i) {
        // every long may be a BLOCK, so that a refusal can't be told apart
        return isBlock(i) ? now(i) : 0L;
    }

    // ---- words, mends

    public int word(int i, int r, int what) {
        if (!isWord(i, r)) {
            return BAD;
        }
        int word = 8 * i + r;
        switch (what) {
            case 0:
                return stairs.checkOf(word);
            case 1:
                return stairs.isOdd(word) ? 1 : 0;
            case 2:
                return stairs.stateOf(word);
            case 3:
                return stairs.wrongBitsOf(word);
            case 4:
                return Math.max(NONE, stairs.placeToMend(word, rule));
            default:
                return BAD;
        }
    }

    public int mend(int i, int r) {
        if (!isWord(i, r)) {
            return BAD;
        }
        int word = 8 * i + r;
        if (stairs.isStalled(word)) {
            return STALL;
        }
        int place = stairs.placeToMend(word, rule);
        if (place >= 0) {
            int bit = bitAt(word, place);
            stairs.turnBit(bit);
            journal.add(bit);
        }
        return place;
    }

    public int turn(int a, int b) {
        if (!isBlock(a) || !isBlock(b) || a > b) {
            return BAD;
        }
        return stairs.takeTurn(a, b, rule, journal);
    }

    public int window(int a, int n, int turns) {
        // the document bounds the SIZE of a SLIDE alone from below by 2: one BLOCK is a WINDOW, too
        if (!isBlock(a) || n < 1 || n > stairs.blocks - a + 1 || !isTurns(turns)) {
            return BAD;
        }
        return stairs.takeWindow(a, a + n - 1, turns, rule, journal);
    }

    public int slide(int n, int turns) {
        if (!isSlideSize(n) || !isTurns(turns)) {
            return BAD;
        }
        stairs.takeSlide(n, turns, rule, journal);
        return stairs.unsoundWords();
    }

    public int undo() {
        if (journal.size == 0) {
            return NOT;
        }
        takeBack(journal.size - 1);
        return journal.size;
    }

    public int back() {
        int taken = 0;
        for (int k = journal.size - 1; k >= 0; k--) {
            if (!stairs.hasSoundWord(journal.bitOfMend(k))) {
                takeBack(k);
                taken++;
            }
        }
        return taken;
    }

    public int settle() {
        int had = journal.size;
        journal.clear();
        return had;
    }

    public int journal(int k) {
        return k >= 0 && k < journal.size ? journal.bitOfMend(k) : BAD;
    }

    // ---- what is stuck

    public int stall(int k) {
        if (k < 0) {
            return BAD;
        }
        int left = k;
        int end = stairs.endOfWords();
        for (int word = 8; word < end; word++) {
            if (stairs.isStalled(word)) {
                if (left == 0) {
                    return word;
                }
                left--;
            }
        }
        return BAD;
    }

    public int piece(int k, int what) {
        pieces.find(stairs);
        return pieces.tell(k, what);
    }

    public int around(int i, int r, int c) {
        if (!isBit(i, r, c)) {
            return BAD;
        }
        if (i == stairs.blocks) {
            return 0;
        }
        // BITS join WORDS of neighbouring i, all with all, so that the sets are rings of four WORDS:
        // two and two of the BIT's own i, or a third i behind or ahead of them
        int sets = 7 * 7;
        if (i > 1) {
            sets += 7 * 8;
        }
        if (i + 2 <= stairs.blocks) {
            sets += 7 * 8;
        }
        return sets;
    }

    public int would(int n, int turns, int rule) {
        if (!isSlideSize(n) || !isTurns(turns) || !isRule(rule)) {
            return BAD;
        }
        trial.becomeLike(stairs);
        trial.takeSlide(n, turns, rule, null);
        return trial.wrongBits();
    }

    public int best(int turns) {
        if (!isTurns(turns)) {
            return BAD;
        }
        int best = LEAST_SLIDE_SIZE;
        int fewest = would(best, turns, rule);
        for (int n = LEAST_SLIDE_SIZE + 1; n <= stairs.blocks; n++) {
            int left = would(n, turns, rule);
            if (left < fewest) {
                fewest = left;
                best = n;
            }
        }
        return best;
    }

    // ---- sheets

    public int sheet(int s, int form, int n) {
        if (!isSheet(s) || !isForm(form) || n > MOST_ITEMS) {
            return BAD;
        }
        if (n < 0) {
            return finding(SIZE);
        }
        sheets[s].begin(form, n);
        return n;
    }

    public int lose(int s) {
        if (!isSheet(s)) {
            return BAD;
        }
        Sheet sheet = sheets[s];
        if (sheet.lost) {
            return finding(NULL);
        }
        sheet.lost = true;
        return sheet.size;
    }

    public int put(int s, int form, int i, int v) {
        if (!isSheet(s) || !isForm(form)) {
            return BAD;
        }
        Sheet sheet = sheets[s];
        if (sheet.lost) {
            return finding(NULL);
        }
        if (sheet.form != form) {
            return finding(CAST);
        }
        if (!sheet.hasItem(i)) {
            return finding(INDEX);
        }
        sheet.items[i] = form == TRUTHS ? v & 1 : v;
        return 1;
    }

    public long get(int s, int i) {
        if (!isSheet(s)) {
            return longRefusal(BAD);
        }
        Sheet sheet = sheets[s];
        if (sheet.lost) {
            return longRefusal(finding(NULL));
        }
        if (!sheet.hasItem(i)) {
            return longRefusal(finding(INDEX));
        }
        return sheet.items[i];
    }

    public int copy(int s, int i, int t, int j, int n) {
        if (!isSheet(s) || !isSheet(t)) {
            return BAD;
        }
        Sheet from = sheets[s];
        Sheet to = sheets[t];
        if (from.lost || to.lost) {
            return finding(NULL);
        }
        if (from.form != to.form) {
            return finding(STORE);
        }
        if (!from.hasItems(i, n) || !to.hasItems(j, n)) {
            return finding(INDEX);
        }
        System.arraycopy(from.items, i, to.items, j, n);
        return 1;
    }

    public int write(int i, int s) {
        if (!isBlock(i) || !isSheet(s)) {
            return BAD;
        }
        Sheet sheet = sheets[s];
        if (sheet.lost) {
            return finding(NULL);
        }
        long bits = now(i);
        if (sheet.form == LONGS) {
            if (sheet.size == 0) {
                return 0;
            }
            sheet.items[0] = bits;
            return 1;
        }
        for (int item = 0; item < sheet.size; item++) {
            sheet.items[item] = bitOf(bits, item);
        }
        return sheet.size;
    }

    public int count(int what) {
        switch (what) {
            case 0:
                return stairs.blocks;
            case 1:
                return stairs.wrongBits();
            case 2:
                return stairs.unsoundWords();
            case 3:
                return stairs.stalledWords();
            case 4:
                return journal.size;
            case 5:
                return falseBits();
            case 6:
                pieces.find(stairs);
                return pieces.count;
            case 7:
                pieces.find(stairs);
                return pieces.stuckOnes();
            case 8:
                return latestFinding;
            default:
                return BAD;
        }
    }

    public long digest() {
        long h = 17L;
        for (int what = 0; what <= 7; what++) {
            h = 31L * h + count(what);
        }
        for (int i = 1; i <= stairs.blocks; i++) {
            h = digestOfBlock(h, i);
        }
        h = digestOfLists(h);
        h = 31L * h + would(2, 3, 0);
        h = 31L * h + would(2, 3, 1);
        h = 31L * h + would(stairs.blocks, 9, 0);
        h = 31L * h + best(3);
        h = 31L * h + around(1, 0, 0);
        h = 31L * h + around(2, 3, 4);
        return h;
    }

    private long digestOfBlock(long start, int i) {
        long h = 31L * start + block(i);
        for (int r = 0; r < 8; r++) {
            for (int what = 1; what <= 3; what++) {
                h = 31L * h + row(i, r, what);
            }
        }
        for (int r = 0; r < 8; r++) {
            for (int what = 0; what <= 4; what++) {
                h = 31L * h + word(i, r, what);
            }
        }
        return h;
    }

    private long digestOfLists(long start) {
        long h = start;
        for (int k = 0; k < journal.size; k++) {
            h = 31L * h + journal.bitOfMend(k);
        }
        int end = stairs.endOfWords();
        for (int word = 8; word < end; word++) {
            if (stairs.isStalled(word)) {
                h = 31L * h + word;
            }
        }
        pieces.find(stairs);
        for (int k = 0; k < pieces.count; k++) {
            for (int what = 0; what <= 3; what++) {
                h = 31L * h + pieces.tell(k, what);
            }
        }
        return h;
    }

    // ---- what the calls have in common

    private boolean isBlock(int i) {
        return i >= 1 && i <= stairs.blocks;
    }

    private static boolean isOctal(int v) {
        return v >= 0 && v <= 7;
    }

    private boolean isWord(int i, int r) {
        return isBlock(i) && isOctal(r);
    }

    private boolean isBit(int i, int r, int c) {
        return isBlock(i) && isOctal(r) && isOctal(c);
    }

    private static boolean isRule(int v) {
        return v == 0 || v == 1;
    }

    private static boolean isTurns(int turns) {
        return turns >= 1 && turns <= MOST_TURNS;
    }

    private boolean isSlideSize(int n) {
        return n >= LEAST_SLIDE_SIZE && n <= stairs.blocks;
    }

    private static boolean isSheet(int s) {
        return s >= 0 && s < SHEETS;
    }

    private static boolean isForm(int form) {
        return form >= 0 && form < FORMS;
    }

    private int finding(int refusal) {
        latestFinding = -10 - refusal;
        return refusal;
    }

    private static long longRefusal(int refusal) {
        return Long.MIN_VALUE - refusal;
    }

    private static int bitNumber(int i, int r, int c) {
        return 64 * i + 8 * r + c;
    }

    private static int bitAt(int word, int place) {
        if (place >= 8) {
            return 8 * word + place - 8;
        }
        return 64 * ((word >> 3) - 1) + 8 * place + (word & 7);
    }

    private static int bitOf(long bits, int place) {
        return (int) (bits >>> place) & 1;
    }

    private static int rowOf(long bits, int r) {
        return (int) (bits >>> (8 * r)) & 255;
    }

    private long now(int i) {
        return sent.bits[i] ^ stairs.wrong[i];
    }

    private void hitBit(int bit) {
        stairs.turnBit(bit);
        hit[bit >> 6] ^= 1L << (bit & 63);
    }

    private void takeBack(int k) {
        stairs.turnBit(journal.bitOfMend(k));
        journal.remove(k);
    }

    private int falseBits() {
        int sum = 0;
        for (int i = 1; i <= stairs.blocks; i++) {
            sum += Long.bitCount(stairs.wrong[i] & ~hit[i]);
        }
        return sum;
    }

    /**
     * The WRONG BITS and what they make of the WORDS. What is SENT is SOUND and the code is linear,
     * so that a WORD's CHECK and oddness come from its WRONG BITS alone.
     */
    private static final class Stairs {
        private static final int ODD = 16;

        private int blocks;
        private final long[] wrong;
        // of each WORD its CHECK, and ODD if it is: 0 is SOUND
        private final int[] checks;

        Stairs() {
            blocks = BLOCKS_AT_FIRST;
            wrong = new long[MOST_BLOCKS + 1];
            checks = new int[ALL_WORDS];
        }

        void clear(int k) {
            blocks = k;
            Arrays.fill(wrong, 0L);
            Arrays.fill(checks, 0);
        }

        void becomeLike(Stairs other) {
            blocks = other.blocks;
            System.arraycopy(other.wrong, 0, wrong, 0, wrong.length);
            System.arraycopy(other.checks, 0, checks, 0, checks.length);
        }

        int endOfWords() {
            return 8 * (blocks + 1);
        }

        void turnBit(int bit) {
            int i = bit >> 6;
            int r = (bit >> 3) & 7;
            int c = bit & 7;
            wrong[i] ^= 1L << (bit & 63);
            checks[bit >> 3] ^= ODD | LABELS[8 + c];
            if (i < blocks) {
                checks[8 * (i + 1) + c] ^= ODD | LABELS[r];
            }
        }

        int checkOf(int word) {
            return checks[word] & 15;
        }

        boolean isOdd(int word) {
            return (checks[word] & ODD) != 0;
        }

        boolean isSound(int word) {
            return checks[word] == 0;
        }

        boolean isStalled(int word) {
            return !isOdd(word) && !isSound(word);
        }

        int stateOf(int word) {
            if (isSound(word)) {
                return 0;
            }
            return isOdd(word) ? 2 : 1;
        }

        int wrongRow(int word) {
            return rowOf(wrong[word >> 3], word & 7);
        }

        long wrongColumn(int word) {
            return wrong[(word >> 3) - 1] & (COLUMN_0 << (word & 7));
        }

        int wrongBitsOf(int word) {
            return Integer.bitCount(wrongRow(word)) + Long.bitCount(wrongColumn(word));
        }

        int wrongBits() {
            int sum = 0;
            for (int i = 1; i <= blocks; i++) {
                sum += Long.bitCount(wrong[i]);
            }
            return sum;
        }

        int unsoundWords() {
            int sum = 0;
            int end = endOfWords();
            for (int word = 8; word < end; word++) {
                if (!isSound(word)) {
                    sum++;
                }
            }
            return sum;
        }

        int stalledWords() {
            int sum = 0;
            int end = endOfWords();
            for (int word = 8; word < end; word++) {
                if (isStalled(word)) {
                    sum++;
                }
            }
            return sum;
        }

        boolean hasSoundWord(int bit) {
            int i = bit >> 6;
            return isSound(bit >> 3) || (i < blocks && isSound(8 * (i + 1) + (bit & 7)));
        }

        /** The PLACE; NONE: the WORD is not ODD; DOUBT: it is DOUBTED. */
        int placeToMend(int word, int byRule) {
            int check = checks[word];
            if ((check & ODD) == 0) {
                return NONE;
            }
            int place = PLACE_OF_LABEL[check & 15];
            int i = word >> 3;
            if (place < 8 && i == 1) {
                return DOUBT;
            }
            boolean hasOther = place < 8 || i < blocks;
            int other = place < 8 ? 8 * (i - 1) + place : 8 * (i + 1) + place - 8;
            return byRule == 1 && hasOther && checks[other] == 0 ? DOUBT : place;
        }

        /** MENDS are told to a JOURNAL; a trial has none (null). */
        int takeTurn(int a, int b, int byRule, Journal told) {
            int turned = 0;
            for (int odd = 1; odd >= 0; odd--) {
                for (int word = 8 * a; word < 8 * (b + 1); word++) {
                    int place = ((word >> 3) & 1) == odd ? placeToMend(word, byRule) : NONE;
                    if (place >= 0) {
                        int bit = bitAt(word, place);
                        turnBit(bit);
                        turned++;
                        if (told != null) {
                            told.add(bit);
                        }
                    }
                }
            }
            return turned;
        }

        int takeWindow(int a, int b, int turns, int byRule, Journal told) {
            for (int done = 0; done < turns; done++) {
                if (takeTurn(a, b, byRule, told) == 0) {
                    return done;
                }
            }
            return turns;
        }

        void takeSlide(int n, int turns, int byRule, Journal told) {
            for (int a = 1; a + n - 1 <= blocks; a++) {
                takeWindow(a, a + n - 1, turns, byRule, told);
            }
        }
    }

    /** DATA, and the BLOCKS that are SENT for them. */
    private static final class Sent {
        // by WORD, as its ROW has the same number
        private final int[] data;
        private final long[] bits;

        Sent() {
            data = new int[ALL_WORDS];
            bits = new long[MOST_BLOCKS + 1];
        }

        void clear() {
            Arrays.fill(data, 0);
            Arrays.fill(bits, 0L);
        }

        void change(int row, int v, int blocks) {
            data[row] = v;
            // BLOCKS ahead of this ROW's don't depend on it
            for (int i = row >> 3; i <= blocks; i++) {
                bits[i] = 0L;
                for (int r = 0; r < 8; r++) {
                    bits[i] |= (long) soundRow(i, r) << (8 * r);
                }
            }
        }

        private int soundRow(int i, int r) {
            int told = data[8 * i + r];
            int check = 0;
            for (int place = 0; place < 8; place++) {
                if (bitOf(bits[i - 1], 8 * place + r) != 0) {
                    check ^= LABELS[place];
                }
            }
            for (int c = 0; c < 3; c++) {
                if (((told >> c) & 1) != 0) {
                    check ^= LABELS[8 + c];
                }
            }
            // COLUMNS 4 to 7 have LABELS 1, 2, 4, 8, and COLUMN 3, of LABEL 0, makes the WORD even
            int row = told | check << 4;
            int ones = Integer.bitCount(row) + Long.bitCount(bits[i - 1] & (COLUMN_0 << r));
            return row | (ones & 1) << 3;
        }
    }

    /** BITS turned by MENDS, the oldest first, in a ring. */
    private static final class Journal {
        private final int[] ring;
        private int oldest;
        private int size;

        Journal() {
            ring = new int[MOST_MENDS];
            oldest = 0;
            size = 0;
        }

        void clear() {
            oldest = 0;
            size = 0;
        }

        void add(int bit) {
            ring[(oldest + size) % MOST_MENDS] = bit;
            if (size < MOST_MENDS) {
                size++;
            } else {
                oldest = (oldest + 1) % MOST_MENDS;
            }
        }

        int bitOfMend(int k) {
            return ring[(oldest + k) % MOST_MENDS];
        }

        void remove(int k) {
            for (int later = k + 1; later < size; later++) {
                ring[(oldest + later - 1) % MOST_MENDS] = ring[(oldest + later) % MOST_MENDS];
            }
            size--;
        }

        int timesOf(int bit) {
            int times = 0;
            for (int k = 0; k < size; k++) {
                if (bitOfMend(k) == bit) {
                    times++;
                }
            }
            return times;
        }
    }

    /** PIECES: WORDS that WRONG BITS join, one piece behind another, by their least BITS. */
    private static final class Pieces {
        private int count;
        private final int[] bitsOf;
        private final int[] wordsOf;
        private final int[] stuck;
        private final int[] least;
        private final boolean[] found;
        private final int[] queue;
        private int queued;

        Pieces() {
            bitsOf = new int[ALL_WORDS];
            wordsOf = new int[ALL_WORDS];
            stuck = new int[ALL_WORDS];
            least = new int[ALL_WORDS];
            found = new boolean[ALL_WORDS];
            queue = new int[ALL_WORDS];
        }

        void find(Stairs stairs) {
            count = 0;
            int end = stairs.endOfWords();
            for (int word = 0; word < end; word++) {
                found[word] = false;
            }
            for (int word = 8; word < end; word++) {
                int row = stairs.wrongRow(word);
                if (row != 0 && !found[word]) {
                    least[count] = 8 * word + Integer.bitCount((row & -row) - 1);
                    spread(stairs, word);
                    count++;
                }
            }
        }

        private void spread(Stairs stairs, int start) {
            int bits = 0;
            int isStuck = 1;
            queued = 0;
            reach(start);
            // each WORD is reached once, so that there are never more
            for (int next = 0; next < queued && next < ALL_WORDS; next++) {
                int word = queue[next];
                // each BIT is in the ROW of one WORD
                bits += Integer.bitCount(stairs.wrongRow(word));
                if (stairs.wrongBitsOf(word) < 2) {
                    isStuck = 0;
                }
                reachNeighbours(stairs, word);
            }
            bitsOf[count] = bits;
            wordsOf[count] = queued;
            stuck[count] = isStuck;
        }

        private void reachNeighbours(Stairs stairs, int word) {
            int i = word >> 3;
            int row = i < stairs.blocks ? stairs.wrongRow(word) : 0;
            long column = stairs.wrongColumn(word) >>> (word & 7);
            for (int k = 0; k < 8; k++) {
                if (((row >> k) & 1) != 0) {
                    reach(8 * (i + 1) + k);
                }
                if (bitOf(column, 8 * k) != 0) {
                    reach(8 * (i - 1) + k);
                }
            }
        }

        private void reach(int word) {
            if (!found[word]) {
                found[word] = true;
                queue[queued] = word;
                queued++;
            }
        }

        int stuckOnes() {
            int sum = 0;
            for (int k = 0; k < count; k++) {
                sum += stuck[k];
            }
            return sum;
        }

        int tell(int k, int what) {
            if (k < 0 || k >= count) {
                return BAD;
            }
            switch (what) {
                case 0:
                    return bitsOf[k];
                case 1:
                    return wordsOf[k];
                case 2:
                    return stuck[k];
                case 3:
                    return least[k];
                default:
                    return BAD;
            }
        }
    }

    /** A row of items, held as longs whatever its FORM: truths are 0 and 1. */
    private static final class Sheet {
        private boolean lost;
        private int form;
        private int size;
        private final long[] items;

        Sheet() {
            lost = true;
            items = new long[MOST_ITEMS];
        }

        void begin(int newForm, int n) {
            lost = false;
            form = newForm;
            size = n;
            Arrays.fill(items, 0L);
        }

        boolean hasItem(int i) {
            return i >= 0 && i < size;
        }

        boolean hasItems(int i, int n) {
            return i >= 0 && n >= 0 && i <= size - n;
        }
    }
}
