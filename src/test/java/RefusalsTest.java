import java.util.ArrayList;
import java.util.List;
import java.util.function.Supplier;
import java.util.function.ToLongFunction;

/**
 * Each call that is refused, in several states and of each K: it answers the first refusal that fits, and
 * changes nothing, but for a FINDING, which count() 8 tells. Two objects come to the same state; one is
 * asked what it refuses; then they are alike.
 */
public final class RefusalsTest {
    private static final int MIN = Integer.MIN_VALUE, MAX = Integer.MAX_VALUE;
    private static final int BAD = -2, NOT = -3, DOUBT = -5, STALL = -6;
    private static final int NULL = -11, INDEX = -12, CAST = -13, STORE = -14, SIZE = -15;

    private record Refusal(String told, ToLongFunction<StairCodes> call, long want) {
    }

    private final List<Refusal> all = new ArrayList<>();

    private void add(String told, long want, ToLongFunction<StairCodes> call) {
        all.add(new Refusal(told, call, want));
    }

    /** Outside of low to high, near and far, and numbers that a product with 64 or 8 would wrap into it. */
    private static int[] outside(int low, int high) {
        return new int[] {low - 1, high + 1, -high - 1, MIN, MIN + 1, MAX, MAX - 1, low + (1 << 26), low + (1 << 29), low + (1 << 30), high - (1 << 29)};
    }

    private void addForBit(int k) {
        for (int i : outside(1, k)) {
            add("data i " + i, BAD, x -> x.data(i, 0, 5));
            add("flip i " + i, BAD, x -> x.flip(i, 0, 0));
            add("read i " + i, BAD, x -> x.read(i, 2));
            add("bit i " + i, BAD, x -> x.bit(i, 0, 0, 0));
            add("row i " + i, BAD, x -> x.row(i, 0, 0));
            add("block i " + i, 0, x -> x.block(i));
            add("word i " + i, BAD, x -> x.word(i, 0, 0));
            add("mend i " + i, BAD, x -> x.mend(i, 0));
            add("around i " + i, BAD, x -> x.around(i, 0, 0));
            add("write i " + i, BAD, x -> x.write(i, 2));
        }
        for (int r : outside(0, 7)) {
            add("data r " + r, BAD, x -> x.data(1, r, 5));
            add("flip r " + r, BAD, x -> x.flip(1, r, 0));
            add("bit r " + r, BAD, x -> x.bit(1, r, 0, 0));
            add("row r " + r, BAD, x -> x.row(1, r, 0));
            add("word r " + r, BAD, x -> x.word(1, r, 0));
            add("mend r " + r, BAD, x -> x.mend(2, r));
            add("around r " + r, BAD, x -> x.around(1, r, 0));
            add("data v " + r, BAD, x -> x.data(1, 0, r));
            add("flip c " + r, BAD, x -> x.flip(1, 0, r));
            add("flip c of the last ROW " + r, BAD, x -> x.flip(k, 7, r));
            add("bit c " + r, BAD, x -> x.bit(1, 0, r, 0));
            add("around c " + r, BAD, x -> x.around(1, 0, r));
            add("around c of BLOCK K " + r, BAD, x -> x.around(k, 0, r));
        }
    }

    private void addForWhat() {
        for (int what : outside(0, 3)) {
            add("row what " + what, BAD, x -> x.row(1, 0, what));
            add("piece what " + what, BAD, x -> x.piece(0, what));
        }
        for (int what : outside(0, 4)) {
            add("bit what " + what, BAD, x -> x.bit(1, 0, 0, what));
            add("word what " + what, BAD, x -> x.word(1, 0, what));
        }
        for (int what : outside(0, 8)) {
            add("count what " + what, BAD, x -> x.count(what));
        }
        for (int v : outside(0, 1)) {
            add("rule " + v, BAD, x -> x.rule(v));
            add("would rule " + v, BAD, x -> x.would(2, 3, v));
        }
        for (int n : outside(0, 256)) {
            add("lots n " + n, BAD, x -> x.lots(5, n));
        }
        for (int k : outside(2, 6)) {
            add("blocks " + k, BAD, x -> x.blocks(k));
        }
    }

    private void addForTurns(int k) {
        for (int i : outside(1, k)) {
            add("turn a " + i, BAD, x -> x.turn(i, k));
            add("turn b " + i, BAD, x -> x.turn(1, i));
            add("turn a and b " + i, BAD, x -> x.turn(i, i));
            add("window a " + i, BAD, x -> x.window(i, 2, 1));
            add("window n " + i, BAD, x -> x.window(1, i, 1));
        }
        for (int a = 1; a <= k; a++) {
            int at = a;
            add("window's end is K and 1, at " + a, BAD, x -> x.window(at, k - at + 2, 1));
            add("window's end wraps, at " + a, BAD, x -> x.window(at, MAX, 1));
            add("window of none, at " + a, BAD, x -> x.window(at, 0, 1));
            for (int b = 1; b < a; b++) {
                int to = b;
                add("turn a above b " + a + " " + b, BAD, x -> x.turn(at, to));
            }
        }
        for (int n : outside(2, k)) {
            add("slide n " + n, BAD, x -> x.slide(n, 1));
            add("would n " + n, BAD, x -> x.would(n, 1, 0));
        }
        for (int turns : outside(1, 9)) {
            add("window turns " + turns, BAD, x -> x.window(1, 2, turns));
            add("slide turns " + turns, BAD, x -> x.slide(2, turns));
            add("would turns " + turns, BAD, x -> x.would(2, turns, 0));
            add("best turns " + turns, BAD, x -> x.best(turns));
        }
    }

    private void addForLists() {
        for (int k : new int[] {-1, 60, 61, MIN, MAX, 1 << 30}) {
            add("journal " + k, BAD, x -> x.journal(k));
            add("stall " + k, BAD, x -> x.stall(k));
            add("piece " + k, BAD, x -> x.piece(k, 0));
        }
        add("journal's size", BAD, x -> x.journal(x.count(4)));
        add("as many as are STALLED", BAD, x -> x.stall(x.count(3)));
        add("as many as PIECES", BAD, x -> x.piece(x.count(6), 3));
    }

    /** In the states SHEET 0 has 5 truths, 1 has 7 longs, 2 has 9 ints, 3 is LOST. */
    private void addForSheets() {
        for (int s : outside(0, 3)) {
            add("read s " + s, BAD, x -> x.read(1, s));
            add("sheet s " + s, BAD, x -> x.sheet(s, 0, 3));
            add("sheet s ahead of SIZE " + s, BAD, x -> x.sheet(s, 0, -1));
            add("lose s " + s, BAD, x -> x.lose(s));
            add("put s " + s, BAD, x -> x.put(s, 0, 0, 1));
            add("get s " + s, Long.MIN_VALUE + 2, x -> x.get(s, 0));
            add("copy s " + s, BAD, x -> x.copy(s, 0, 2, 0, 1));
            add("copy t " + s, BAD, x -> x.copy(2, 0, s, 0, 1));
            add("copy s ahead of NULL " + s, BAD, x -> x.copy(s, 0, 3, 0, 1));
            add("copy t ahead of NULL " + s, BAD, x -> x.copy(3, 0, s, 0, 1));
            add("write s " + s, BAD, x -> x.write(1, s));
        }
        for (int form : outside(0, 2)) {
            add("sheet form " + form, BAD, x -> x.sheet(2, form, 3));
            add("sheet form ahead of SIZE " + form, BAD, x -> x.sheet(2, form, -1));
            add("put form ahead of CAST " + form, BAD, x -> x.put(2, form, 0, 1));
            add("put form ahead of NULL " + form, BAD, x -> x.put(3, form, 0, 1));
            add("put form ahead of INDEX " + form, BAD, x -> x.put(2, form, 9, 1));
        }
        for (int n : new int[] {65, 66, MAX}) {
            add("sheet of " + n, BAD, x -> x.sheet(2, 2, n));
            add("a LOST sheet of " + n, BAD, x -> x.sheet(3, 0, n));
        }
        for (int n : new int[] {-1, -2, -64, MIN}) {
            add("sheet of " + n, SIZE, x -> x.sheet(2, 2, n));
            add("a LOST sheet of " + n, SIZE, x -> x.sheet(3, 0, n));
        }
    }

    private void addForLostSheets() {
        add("read", NULL, x -> x.read(1, 3));
        add("read BLOCK 0: BAD ahead of NULL", BAD, x -> x.read(0, 3));
        add("lose", NULL, x -> x.lose(3));
        add("put", NULL, x -> x.put(3, 0, 0, 1));
        add("put: NULL ahead of INDEX", NULL, x -> x.put(3, 2, MIN, 1));
        add("get", Long.MIN_VALUE + 11, x -> x.get(3, 0));
        add("get: NULL ahead of INDEX", Long.MIN_VALUE + 11, x -> x.get(3, MAX));
        add("copy s", NULL, x -> x.copy(3, 0, 2, 0, 1));
        add("copy t", NULL, x -> x.copy(2, 0, 3, 0, 1));
        add("copy s and t", NULL, x -> x.copy(3, 0, 3, 0, 0));
        add("copy: NULL ahead of INDEX", NULL, x -> x.copy(2, -1, 3, -1, -1));
        add("write", NULL, x -> x.write(1, 3));
        add("write BLOCK 0: BAD ahead of NULL", BAD, x -> x.write(0, 3));
    }

    private void addForItems() {
        int[] sizes = {5, 7, 9};
        for (int s = 0; s < 3; s++) {
            int at = s;
            int size = sizes[s];
            for (int i : new int[] {-1, size, size + 1, 63, 64, MIN, MAX, 1 << 29}) {
                add("put item " + i + " of " + size, INDEX, x -> x.put(at, at, i, 1));
                add("get item " + i + " of " + size, Long.MIN_VALUE + 12, x -> x.get(at, i));
                add("CAST ahead of INDEX " + i, CAST, x -> x.put(at, (at + 1) % 3, i, 1));
                add("STORE ahead of INDEX, i " + i, STORE, x -> x.copy(at, i, (at + 1) % 3, 0, 1));
                add("STORE ahead of INDEX, n " + i, STORE, x -> x.copy(at, 0, (at + 2) % 3, 0, i));
                add("copy from " + i + " of " + size, INDEX, x -> x.copy(at, i, at, 0, 1));
                add("copy to " + i + " of " + size, INDEX, x -> x.copy(at, 0, at, i, 1));
            }
            for (int i : new int[] {-1, size + 1, MIN, MAX}) {
                add("copy none from " + i + " of " + size, INDEX, x -> x.copy(at, i, at, 0, 0));
                add("copy none to " + i + " of " + size, INDEX, x -> x.copy(at, 0, at, i, 0));
                add("copy " + i + " of " + size, INDEX, x -> x.copy(at, 0, at, 0, i));
                add("copy " + i + " of " + size + " from 1", INDEX, x -> x.copy(at, 1, at, 1, i));
            }
            add("copy one too many from", INDEX, x -> x.copy(at, 2, at, 0, size - 1));
            add("copy one too many to", INDEX, x -> x.copy(at, 0, at, 2, size - 1));
            add("CAST of another FORM", CAST, x -> x.put(at, (at + 2) % 3, 0, 1));
            add("STORE of none", STORE, x -> x.copy(at, 0, (at + 1) % 3, 0, 0));
        }
    }

    private static List<Refusal> of(int k) {
        RefusalsTest some = new RefusalsTest();
        some.addForBit(k);
        some.addForWhat();
        some.addForTurns(k);
        some.addForLists();
        some.addForSheets();
        some.addForLostSheets();
        some.addForItems();
        return some.all;
    }

    private static void fillSheets(StairCodes x) {
        x.sheet(0, 0, 5);
        x.sheet(1, 1, 7);
        x.sheet(2, 2, 9);
        for (int s = 0; s < 3; s++) {
            x.put(s, s, 0, 3 + s);
            x.put(s, s, 4, -1 - s);
        }
        x.put(2, 2, 8, 8);
    }

    private static StairCodes plain(int k) {
        StairCodes x = new StairCodes();
        x.blocks(k);
        fillSheets(x);
        return x;
    }

    /** DATA, WRONG BITS that mends, turns and reads would all change, a JOURNAL, RULE 1, FINDING 2. */
    private static StairCodes busy(int k) {
        StairCodes x = plain(k);
        x.data(1, 0, 5);
        x.data(k, 7, 3);
        x.rule(1);
        x.flip(1, 2, 3);
        x.mend(1, 2);
        x.flip(k, 7, 7);
        x.mend(k, 7);
        x.flip(k, 0, 0);
        x.flip(k, 0, 1);
        x.flip(k, 5, 3);
        x.flip(1, 4, 4);
        x.flip(1, 0, 7);
        x.get(1, 7);
        return x;
    }

    private static void refuseEach(String state, Supplier<StairCodes> make, List<Refusal> refusals, int findingBefore) {
        for (Refusal each : refusals) {
            StairCodes x = make.get();
            StairCodes y = make.get();
            String told = state + ": " + each.told();
            Due.is(told, each.call().applyAsLong(x), each.want());
            Look.alike(told, x, y, findingOf(each.want(), findingBefore));
        }
    }

    private static long findingOf(long answer, int before) {
        if (answer <= NULL && answer >= SIZE) {
            return -10 - answer;
        }
        if (answer == Long.MIN_VALUE + 11 || answer == Long.MIN_VALUE + 12) {
            return answer - Long.MIN_VALUE - 10;
        }
        return before;
    }

    private static StairCodes withWrongRow(int rule, int... columns) {
        StairCodes x = plain(4);
        x.rule(rule);
        for (int c : columns) {
            x.flip(3, 5, c);
        }
        return x;
    }

    /** Refusals that the state makes, not the numbers. */
    private static void refusedByState() {
        Refusal undo = new Refusal("undo of none", StairCodes::undo, NOT);
        refuseEach("empty JOURNAL", () -> plain(4), List.of(undo), 0);
        Refusal mend = new Refusal("mend of a STALLED one", x -> x.mend(3, 5), STALL);
        refuseEach("RULE 0", () -> withWrongRow(0, 0, 1), List.of(mend), 0);
        refuseEach("RULE 1", () -> withWrongRow(1, 0, 1), List.of(mend), 0);
        // LABELS 3, 5, 0 make 6, PLACE 10; LABELS 1, 2, 4 make 7, PLACE 0: their other WORDS are SOUND
        Refusal doubt = new Refusal("mend of a DOUBTED one", x -> x.mend(3, 5), DOUBT);
        refuseEach("RULE 1, ROW", () -> withWrongRow(1, 0, 1, 3), List.of(doubt), 0);
        refuseEach("RULE 1, COLUMN", () -> withWrongRow(1, 4, 5, 6), List.of(doubt), 0);
        Refusal none = new Refusal("mend of a SOUND one", x -> x.mend(3, 5), StairCodes.NONE);
        refuseEach("RULE 0", () -> withWrongRow(0), List.of(none), 0);
        refuseEach("RULE 0, four WRONG ones", () -> withWrongRow(0, 0, 1, 2, 3), List.of(none), 0);
    }

    public static void main(String[] args) {
        for (int k = 2; k <= 6; k++) {
            int of = k;
            refuseEach("K " + k, () -> plain(of), of(k), 0);
            refuseEach("busy, K " + k, () -> busy(of), of(k), 2);
        }
        refusedByState();
        Due.end();
    }
}
