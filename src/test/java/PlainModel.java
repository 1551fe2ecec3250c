import java.util.ArrayList;
import java.util.HashSet;
import java.util.List;
import java.util.Set;

/**
 * The document once more, as slowly and as literally as it can be put: BITS in an array, WORDS read
 * from what is NOW, SENT found by trying, PIECES by joining. It shares no idea with the class.
 */
final class PlainModel {
    static final int NONE = -1, BAD = -2, NOT = -3, DOUBT = -5, STALL = -6;
    private static final int[] LABELS = {7, 9, 10, 11, 12, 13, 14, 15, 3, 5, 6, 0, 1, 2, 4, 8};

    private int k = 4;
    private int[][][] now = new int[7][8][8];
    private int[][][] sent = new int[7][8][8];
    private int[][][] hits = new int[7][8][8];
    private int[][] data = new int[7][8];
    private int rule = 0;
    private int found = 0;
    private List<int[]> journal = new ArrayList<>();
    private final Object[] sheets = new Object[4];

    private static boolean in(int x, int low, int high) {
        return x >= low && x <= high;
    }

    private boolean noBit(int i, int r, int c) {
        return !in(i, 1, k) || !in(r, 0, 7) || !in(c, 0, 7);
    }

    private int[] placeBit(int i, int r, int place) {
        return place < 8 ? new int[] {i - 1, place, r} : new int[] {i, r, place - 8};
    }

    private int valueAt(int[][][] of, int i, int r, int place) {
        int[] b = placeBit(i, r, place);
        return of[b[0]][b[1]][b[2]];
    }

    private int check(int[][][] of, int i, int r) {
        int check = 0;
        for (int p = 0; p < 16; p++) {
            if (valueAt(of, i, r, p) == 1) {
                check ^= LABELS[p];
            }
        }
        return check;
    }

    private boolean odd(int[][][] of, int i, int r) {
        int ones = 0;
        for (int p = 0; p < 16; p++) {
            ones += valueAt(of, i, r, p);
        }
        return ones % 2 == 1;
    }

    private boolean sound(int i, int r) {
        return !odd(now, i, r) && check(now, i, r) == 0;
    }

    private boolean stalled(int i, int r) {
        return !odd(now, i, r) && check(now, i, r) != 0;
    }

    private boolean wrong(int i, int r, int c) {
        return now[i][r][c] != sent[i][r][c];
    }

    private List<int[]> wordsOf(int[] bit) {
        List<int[]> words = new ArrayList<>();
        words.add(new int[] {bit[0], bit[1]});
        if (bit[0] != k) {
            words.add(new int[] {bit[0] + 1, bit[2]});
        }
        return words;
    }

    private void makeSent() {
        for (int i = 1; i <= k; i++) {
            for (int r = 0; r < 8; r++) {
                int fits = 0;
                int fit = 0;
                for (int rest = 0; rest < 32; rest++) {
                    setSentRow(i, r, rest);
                    if (!odd(sent, i, r) && check(sent, i, r) == 0) {
                        fits++;
                        fit = rest;
                    }
                }
                if (fits != 1) {
                    throw new IllegalStateException("not just one SENT");
                }
                setSentRow(i, r, fit);
            }
        }
    }

    private void setSentRow(int i, int r, int rest) {
        for (int c = 0; c < 8; c++) {
            sent[i][r][c] = c < 3 ? (data[i][r] >> c) & 1 : (rest >> (c - 3)) & 1;
        }
    }

    int blocks(int n) {
        if (!in(n, 2, 6)) {
            return BAD;
        }
        int was = k;
        k = n;
        now = new int[7][8][8];
        sent = new int[7][8][8];
        hits = new int[7][8][8];
        data = new int[7][8];
        journal = new ArrayList<>();
        return was;
    }

    int data(int i, int r, int v) {
        if (noBit(i, r, 0) || !in(v, 0, 7)) {
            return BAD;
        }
        int was = data[i][r];
        boolean[][][] wrongOnes = new boolean[7][8][8];
        for (int[] b : allBits()) {
            wrongOnes[b[0]][b[1]][b[2]] = wrong(b[0], b[1], b[2]);
        }
        data[i][r] = v;
        makeSent();
        for (int[] b : allBits()) {
            int s = sent[b[0]][b[1]][b[2]];
            now[b[0]][b[1]][b[2]] = wrongOnes[b[0]][b[1]][b[2]] ? 1 - s : s;
        }
        return was;
    }

    private List<int[]> allBits() {
        List<int[]> all = new ArrayList<>();
        for (int i = 1; i <= k; i++) {
            for (int r = 0; r < 8; r++) {
                for (int c = 0; c < 8; c++) {
                    all.add(new int[] {i, r, c});
                }
            }
        }
        return all;
    }

    private List<int[]> wrongBits() {
        List<int[]> some = new ArrayList<>();
        for (int[] b : allBits()) {
            if (wrong(b[0], b[1], b[2])) {
                some.add(b);
            }
        }
        return some;
    }

    private void turnIt(int[] b) {
        now[b[0]][b[1]][b[2]] = 1 - now[b[0]][b[1]][b[2]];
    }

    private void hitIt(int[] b) {
        turnIt(b);
        hits[b[0]][b[1]][b[2]]++;
    }

    int flip(int i, int r, int c) {
        if (noBit(i, r, c)) {
            return BAD;
        }
        hitIt(new int[] {i, r, c});
        return wrongBits().size();
    }

    int lots(int seed, int n) {
        if (!in(n, 0, 256)) {
            return BAD;
        }
        long s = seed;
        int turned = 0;
        for (int[] b : allBits()) {
            s = (int) (1103515245L * s + 12345L);
            long upper = ((s & 0xFFFFFFFFL) / 65536) % 256;
            if (upper < n) {
                hitIt(b);
                turned++;
            }
        }
        return turned;
    }

    private int find(int number) {
        found = number;
        return -10 - number;
    }

    private static int sizeOf(Object sheet) {
        return sheet instanceof boolean[] t ? t.length : sheet instanceof long[] l ? l.length : ((int[]) sheet).length;
    }

    private static int formOf(Object sheet) {
        return sheet instanceof boolean[] ? 0 : sheet instanceof long[] ? 1 : 2;
    }

    private static long itemOf(Object sheet, int i) {
        return sheet instanceof boolean[] t ? (t[i] ? 1 : 0) : sheet instanceof long[] l ? l[i] : ((int[]) sheet)[i];
    }

    int read(int i, int s) {
        if (!in(i, 1, k) || !in(s, 0, 3)) {
            return BAD;
        }
        if (sheets[s] == null) {
            return find(1);
        }
        int turned = 0;
        for (int x = 0; x < sizeOf(sheets[s]); x++) {
            if (itemOf(sheets[s], x) != 0) {
                hitIt(new int[] {i, x / 8, x % 8});
                turned++;
            }
        }
        return turned;
    }

    int rule(int v) {
        if (!in(v, 0, 1)) {
            return BAD;
        }
        int was = rule;
        rule = v;
        return was;
    }

    int bit(int i, int r, int c, int what) {
        if (noBit(i, r, c) || !in(what, 0, 4)) {
            return BAD;
        }
        if (what == 0) {
            return now[i][r][c];
        }
        if (what == 1) {
            return sent[i][r][c];
        }
        if (what == 2) {
            return wrong(i, r, c) ? 1 : 0;
        }
        if (what == 3) {
            return hits[i][r][c] % 2;
        }
        int times = 0;
        for (int[] b : journal) {
            if (b[0] == i && b[1] == r && b[2] == c) {
                times++;
            }
        }
        return times;
    }

    int row(int i, int r, int what) {
        if (noBit(i, r, 0) || !in(what, 0, 3)) {
            return BAD;
        }
        if (what == 3) {
            return data[i][r];
        }
        int number = 0;
        int factor = 1;
        for (int c = 0; c < (what == 2 ? 3 : 8); c++) {
            number += factor * (what == 1 ? sent : now)[i][r][c];
            factor *= 2;
        }
        return number;
    }

    long block(int i) {
        long number = 0;
        if (in(i, 1, k)) {
            for (int x = 0; x < 64; x++) {
                number |= (long) now[i][x / 8][x % 8] << x;
            }
        }
        return number;
    }

    private int placeToMend(int i, int r, int byRule) {
        if (!odd(now, i, r)) {
            return NONE;
        }
        for (int p = 0; p < 16; p++) {
            if (LABELS[p] != check(now, i, r)) {
                continue;
            }
            int[] b = placeBit(i, r, p);
            if (b[0] == 0) {
                return DOUBT;
            }
            for (int[] w : wordsOf(b)) {
                boolean other = w[0] != i || w[1] != r;
                if (byRule == 1 && other && sound(w[0], w[1])) {
                    return DOUBT;
                }
            }
            return p;
        }
        throw new IllegalStateException("no such LABEL");
    }

    int word(int i, int r, int what) {
        if (noBit(i, r, 0) || !in(what, 0, 4)) {
            return BAD;
        }
        if (what == 0) {
            return check(now, i, r);
        }
        if (what == 1) {
            return odd(now, i, r) ? 1 : 0;
        }
        if (what == 2) {
            return sound(i, r) ? 0 : stalled(i, r) ? 1 : 2;
        }
        if (what == 3) {
            int sum = 0;
            for (int p = 0; p < 16; p++) {
                int[] b = placeBit(i, r, p);
                sum += wrong(b[0], b[1], b[2]) ? 1 : 0;
            }
            return sum;
        }
        int place = placeToMend(i, r, rule);
        return place < 0 ? NONE : place;
    }

    int mend(int i, int r) {
        if (noBit(i, r, 0)) {
            return BAD;
        }
        if (sound(i, r)) {
            return NONE;
        }
        int place = placeToMend(i, r, rule);
        if (place == DOUBT) {
            return DOUBT;
        }
        if (stalled(i, r)) {
            return STALL;
        }
        mendIt(placeBit(i, r, place));
        return place;
    }

    private void mendIt(int[] b) {
        turnIt(b);
        journal.add(b);
        if (journal.size() > 60) {
            journal.remove(0);
        }
    }

    private int turnOver(int a, int b) {
        int turned = 0;
        for (int rest : new int[] {1, 0}) {
            for (int i = a; i <= b; i++) {
                for (int r = 0; i % 2 == rest && r < 8; r++) {
                    int place = placeToMend(i, r, rule);
                    if (place >= 0) {
                        mendIt(placeBit(i, r, place));
                        turned++;
                    }
                }
            }
        }
        return turned;
    }

    int turn(int a, int b) {
        return !in(a, 1, k) || !in(b, a, k) ? BAD : turnOver(a, b);
    }

    int window(int a, int n, int turns) {
        if (!in(a, 1, k) || !in(n, 1, k) || a + n - 1 > k || !in(turns, 1, 9)) {
            return BAD;
        }
        int some = 0;
        while (some < turns && turnOver(a, a + n - 1) > 0) {
            some++;
        }
        return some;
    }

    int slide(int n, int turns) {
        if (!in(n, 2, k) || !in(turns, 1, 9)) {
            return BAD;
        }
        for (int a = 1; a <= k - n + 1; a++) {
            window(a, n, turns);
        }
        return count(2);
    }

    int undo() {
        if (journal.isEmpty()) {
            return NOT;
        }
        turnIt(journal.remove(journal.size() - 1));
        return journal.size();
    }

    int back() {
        int had = journal.size();
        for (int x = had - 1; x >= 0; x--) {
            boolean helped = false;
            for (int[] w : wordsOf(journal.get(x))) {
                helped |= sound(w[0], w[1]);
            }
            if (!helped) {
                turnIt(journal.remove(x));
            }
        }
        return had - journal.size();
    }

    int settle() {
        int had = journal.size();
        journal.clear();
        return had;
    }

    private static int told(int[] b) {
        return 64 * b[0] + 8 * b[1] + b[2];
    }

    int journal(int x) {
        return in(x, 0, journal.size() - 1) ? told(journal.get(x)) : BAD;
    }

    private List<Integer> stalls() {
        List<Integer> some = new ArrayList<>();
        for (int w = 8; w <= 8 * k + 7; w++) {
            if (stalled(w / 8, w % 8)) {
                some.add(w);
            }
        }
        return some;
    }

    int stall(int x) {
        List<Integer> some = stalls();
        return in(x, 0, some.size() - 1) ? some.get(x) : BAD;
    }

    private boolean haveCommonWord(int[] a, int[] b) {
        for (int[] v : wordsOf(a)) {
            for (int[] w : wordsOf(b)) {
                if (v[0] == w[0] && v[1] == w[1]) {
                    return true;
                }
            }
        }
        return false;
    }

    private List<List<int[]>> pieces() {
        List<int[]> left = wrongBits();
        List<List<int[]>> all = new ArrayList<>();
        while (!left.isEmpty()) {
            List<int[]> piece = new ArrayList<>();
            piece.add(left.remove(0));
            for (int x = 0; x < piece.size(); x++) {
                for (int y = left.size() - 1; y >= 0; y--) {
                    if (haveCommonWord(piece.get(x), left.get(y))) {
                        piece.add(left.remove(y));
                    }
                }
            }
            all.add(piece);
        }
        return all;
    }

    private Set<Integer> wordsOfPiece(List<int[]> piece) {
        Set<Integer> words = new HashSet<>();
        for (int[] b : piece) {
            for (int[] w : wordsOf(b)) {
                words.add(8 * w[0] + w[1]);
            }
        }
        return words;
    }

    private boolean stuck(List<int[]> piece) {
        for (int w : wordsOfPiece(piece)) {
            if (word(w / 8, w % 8, 3) < 2) {
                return false;
            }
        }
        return true;
    }

    int piece(int x, int what) {
        List<List<int[]>> all = pieces();
        if (!in(x, 0, all.size() - 1) || !in(what, 0, 3)) {
            return BAD;
        }
        return tellPiece(all.get(x), what);
    }

    private int tellPiece(List<int[]> piece, int what) {
        if (what == 0) {
            return piece.size();
        }
        if (what == 1) {
            return wordsOfPiece(piece).size();
        }
        return what == 2 ? (stuck(piece) ? 1 : 0) : told(piece.get(0));
    }

    /** Counts rings of four WORDS through the BIT by walking them, as AroundTest counts sets for it. */
    int around(int i, int r, int c) {
        if (noBit(i, r, c)) {
            return BAD;
        }
        int rings = 0;
        int from = 8 * i + r;
        int to = 8 * (i + 1) + c;
        for (int v = 8; i < k && v <= 8 * k + 7; v++) {
            for (int w = 8; w <= 8 * k + 7; w++) {
                boolean fourWords = v != from && v != to && w != from && w != to && v != w;
                if (fourWords && joined(to, v) && joined(v, w) && joined(w, from)) {
                    rings++;
                }
            }
        }
        return rings;
    }

    private static boolean joined(int v, int w) {
        return Math.abs(v / 8 - w / 8) == 1;
    }

    int would(int n, int turns, int byRule) {
        if (!in(n, 2, k) || !in(turns, 1, 9) || !in(byRule, 0, 1)) {
            return BAD;
        }
        PlainModel other = new PlainModel();
        other.k = k;
        other.rule = byRule;
        other.sent = sent;
        for (int[] b : allBits()) {
            other.now[b[0]][b[1]][b[2]] = now[b[0]][b[1]][b[2]];
        }
        other.slide(n, turns);
        return other.wrongBits().size();
    }

    int best(int turns) {
        if (!in(turns, 1, 9)) {
            return BAD;
        }
        int best = k;
        for (int n = k; n >= 2; n--) {
            if (would(n, turns, rule) <= would(best, turns, rule)) {
                best = n;
            }
        }
        return best;
    }

    int sheet(int s, int form, int n) {
        if (!in(s, 0, 3) || !in(form, 0, 2) || n > 64) {
            return BAD;
        }
        if (n < 0) {
            return find(5);
        }
        sheets[s] = form == 0 ? new boolean[n] : form == 1 ? new long[n] : new int[n];
        return n;
    }

    int lose(int s) {
        if (!in(s, 0, 3)) {
            return BAD;
        }
        if (sheets[s] == null) {
            return find(1);
        }
        int had = sizeOf(sheets[s]);
        sheets[s] = null;
        return had;
    }

    int put(int s, int form, int i, int v) {
        if (!in(s, 0, 3) || !in(form, 0, 2)) {
            return BAD;
        }
        if (sheets[s] == null) {
            return find(1);
        }
        if (formOf(sheets[s]) != form) {
            return find(3);
        }
        if (!in(i, 0, sizeOf(sheets[s]) - 1)) {
            return find(2);
        }
        if (sheets[s] instanceof boolean[] t) {
            t[i] = v % 2 != 0;
        } else if (sheets[s] instanceof long[] l) {
            l[i] = v;
        } else {
            ((int[]) sheets[s])[i] = v;
        }
        return 1;
    }

    long get(int s, int i) {
        if (!in(s, 0, 3)) {
            return Long.MIN_VALUE + 2;
        }
        if (sheets[s] == null) {
            find(1);
            return Long.MIN_VALUE + 11;
        }
        if (!in(i, 0, sizeOf(sheets[s]) - 1)) {
            find(2);
            return Long.MIN_VALUE + 12;
        }
        return itemOf(sheets[s], i);
    }

    int copy(int s, int i, int t, int j, int n) {
        if (!in(s, 0, 3) || !in(t, 0, 3)) {
            return BAD;
        }
        if (sheets[s] == null || sheets[t] == null) {
            return find(1);
        }
        if (formOf(sheets[s]) != formOf(sheets[t])) {
            return find(4);
        }
        if (i < 0 || j < 0 || n < 0 || (long) i + n > sizeOf(sheets[s]) || (long) j + n > sizeOf(sheets[t])) {
            return find(2);
        }
        System.arraycopy(sheets[s], i, sheets[t], j, n);
        return 1;
    }

    int write(int i, int s) {
        if (!in(i, 1, k) || !in(s, 0, 3)) {
            return BAD;
        }
        if (sheets[s] == null) {
            return find(1);
        }
        int size = sizeOf(sheets[s]);
        if (sheets[s] instanceof long[] l) {
            if (size > 0) {
                l[0] = block(i);
            }
            return Math.min(size, 1);
        }
        for (int x = 0; x < size; x++) {
            if (sheets[s] instanceof boolean[] t) {
                t[x] = now[i][x / 8][x % 8] == 1;
            } else {
                ((int[]) sheets[s])[x] = now[i][x / 8][x % 8];
            }
        }
        return size;
    }

    int count(int what) {
        switch (what) {
            case 0: return k;
            case 1: return wrongBits().size();
            case 2: return unsound();
            case 3: return stalls().size();
            case 4: return journal.size();
            case 5: return falseBits();
            case 6: return pieces().size();
            case 7: return stuckPieces();
            case 8: return found;
            default: return BAD;
        }
    }

    private int unsound() {
        int sum = 0;
        for (int w = 8; w <= 8 * k + 7; w++) {
            sum += sound(w / 8, w % 8) ? 0 : 1;
        }
        return sum;
    }

    private int falseBits() {
        int sum = 0;
        for (int[] b : wrongBits()) {
            sum += hits[b[0]][b[1]][b[2]] % 2 == 0 ? 1 : 0;
        }
        return sum;
    }

    private int stuckPieces() {
        int sum = 0;
        for (List<int[]> piece : pieces()) {
            sum += stuck(piece) ? 1 : 0;
        }
        return sum;
    }

    long digest() {
        List<Long> told = new ArrayList<>();
        for (int what = 0; what <= 7; what++) {
            told.add((long) count(what));
        }
        for (int i = 1; i <= k; i++) {
            told.add(block(i));
            for (int x = 0; x < 24; x++) {
                told.add((long) row(i, x / 3, 1 + x % 3));
            }
            for (int x = 0; x < 40; x++) {
                told.add((long) word(i, x / 5, x % 5));
            }
        }
        for (int[] b : journal) {
            told.add((long) told(b));
        }
        for (int w : stalls()) {
            told.add((long) w);
        }
        for (List<int[]> piece : pieces()) {
            for (int what = 0; what <= 3; what++) {
                told.add((long) tellPiece(piece, what));
            }
        }
        told.add((long) would(2, 3, 0));
        told.add((long) would(2, 3, 1));
        told.add((long) would(k, 9, 0));
        told.add((long) best(3));
        told.add((long) around(1, 0, 0));
        told.add((long) around(2, 3, 4));
        long h = 17;
        for (long each : told) {
            h = 31 * h + each;
        }
        return h;
    }
}
