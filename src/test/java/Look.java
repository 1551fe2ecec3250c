import java.util.ArrayList;
import java.util.List;

/**
 * All that calls tell of an object, digest() and what digest() leaves out: HIT BITS, RULE, SHEETS, the
 * latest FINDING. Looking changes the latest FINDING alone, so that an object is looked at last.
 */
final class Look {
    private static final int FINDING = 0;

    private Look() {
    }

    static List<Long> at(StairCodes x) {
        List<Long> told = new ArrayList<>();
        told.add((long) x.count(8));
        told.add(x.digest());
        told.add(x.block(0));
        addHits(told, x);
        int rule = x.rule(0);
        x.rule(rule);
        told.add((long) rule);
        for (int s = 0; s < 4; s++) {
            addSheet(told, x, s);
        }
        return told;
    }

    private static void addHits(List<Long> told, StairCodes x) {
        int k = x.count(0);
        for (int i = 1; i <= k; i++) {
            long hits = 0;
            for (int place = 0; place < 64; place++) {
                hits |= (long) x.bit(i, place / 8, place % 8, 3) << place;
            }
            told.add(hits);
        }
    }

    private static void addSheet(List<Long> told, StairCodes x, int s) {
        for (int form = 0; form < 3; form++) {
            told.add((long) x.put(s, form, -1, 0));
        }
        boolean more = true;
        for (int i = 0; i <= 64 && more; i++) {
            long item = x.get(s, i);
            told.add(item);
            more = item != Long.MIN_VALUE + 11 && item != Long.MIN_VALUE + 12;
        }
    }

    /** Two objects are alike in all but the latest FINDING, which of the first is as told. */
    static void alike(String what, StairCodes x, StairCodes y, long finding) {
        List<Long> ofX = at(x);
        List<Long> ofY = at(y);
        Due.is(what + ": the latest FINDING", ofX.get(FINDING), finding);
        ofX.set(FINDING, 0L);
        ofY.set(FINDING, 0L);
        Due.is(what + ": nothing else is changed", ofX.equals(ofY) ? 1 : 0, 1);
    }
}
