import java.util.ArrayList;
import java.util.List;

/** Promises 11 to 19: each sentence that names an edge has a method of its own. */
public final class MendsEdgesTest {
    private static final int MIN = Integer.MIN_VALUE, MAX = Integer.MAX_VALUE;
    private static final int NONE = -1, BAD = -2, NOT = -3, DOUBT = -5, STALL = -6;

    private static void is(String call, long got, long want) {
        Due.is(call, got, want);
    }

    /** Answers of journal() from the oldest on. */
    private static void journalIs(String told, StairCodes x, int... want) {
        is(told + ": how many", x.count(4), want.length);
        for (int n = 0; n < want.length; n++) {
            is(told + ": MEND " + n, x.journal(n), want[n]);
        }
        is(told + ": no more", x.journal(want.length), BAD);
    }

    private static int bit(int i, int r, int c) {
        return 64 * i + 8 * r + c;
    }

    /** 11: "how many of its BITS are WRONG (3)": none to all 16, of WORD 1, r 8 at most. */
    private static void wordsHaveUpToSixteenWrong() {
        for (int k = 2; k <= 6; k++) {
            StairCodes x = States.ofBlocks(k);
            is("11: none", x.word(k, 7, 3), 0);
            x.lots(1, 256);
            for (int r = 0; r < 8; r++) {
                is("11: WORD 1, " + r, x.word(1, r, 3), 8);
                is("11: WORD 2, " + r, x.word(2, r, 3), 16);
                is("11: WORD K, " + r, x.word(k, r, 3), 16);
                // all LABELS make 0, those of COLUMNS make 15
                is("11: WORD K is SOUND", x.word(k, r, 2), 0);
                is("11: WORD 1 is STALLED", x.word(1, r, 2), 1);
                is("11: CHECK", x.word(1, r, 0), 15);
            }
            is("11: WORD K and 1", x.word(k + 1, 0, 0), BAD);
            is("11: WORD 0", x.word(0, 0, 0), BAD);
            is("11: r -1", x.word(1, -1, 0), BAD);
            is("11: r 8", x.word(1, 8, 0), BAD);
            is("11: what -1", x.word(1, 0, -1), BAD);
            is("11: what 5", x.word(1, 0, 5), BAD);
        }
    }

    /** 11: "whether it is ODD (1: 1, 0), 0 SOUND, 1 STALLED, 2 ODD (2)" */
    private static void wordsAreOddByTurns() {
        StairCodes x = new StairCodes();
        is("11: none", x.word(4, 7, 1), 0);
        for (int c = 0; c < 8; c++) {
            x.flip(4, 7, c);
            is("11: " + (c + 1) + " of a ROW", x.word(4, 7, 1), 1 - c % 2);
            // LABELS 3, 5, 6, 0 make 0
            is("11: kind of " + (c + 1), x.word(4, 7, 2), c % 2 == 0 ? 2 : c == 3 ? 0 : 1);
        }
        for (int r = 0; r < 8; r++) {
            x.flip(3, r, 7);
            is("11: with " + (r + 1) + " of a COLUMN", x.word(4, 7, 1), 1 - r % 2);
        }
        is("11: all are WRONG, and SOUND", x.word(4, 7, 2), 0);
    }

    /** 12: "the PLACE": 0 to 15, each turned and told. */
    private static void mendsOfEachPlace() {
        for (int k = 2; k <= 6; k++) {
            for (int i = 1; i <= k; i++) {
                for (int place = i == 1 ? 8 : 0; place < 16; place++) {
                    StairCodes x = States.ofBlocks(k);
                    int r = (place + i) % 8;
                    int[] at = place < 8 ? new int[] {i - 1, place, r} : new int[] {i, r, place - 8};
                    x.rule(place % 2);
                    x.flip(at[0], at[1], at[2]);
                    is("12: PLACE " + place, x.mend(i, r), place);
                    is("12: it is right", x.count(1), 0);
                    journalIs("12: PLACE " + place, x, bit(at[0], at[1], at[2]));
                }
            }
        }
    }

    /** 11: "NONE: it is not ODD, or would be DOUBTED" */
    private static void wordTellsNoPlace() {
        StairCodes x = new StairCodes();
        is("11: SOUND", x.word(3, 0, 4), NONE);
        x.flip(3, 0, 0);
        is("11: ODD", x.word(3, 0, 4), 8);
        x.flip(3, 0, 7);
        is("11: STALLED", x.word(3, 0, 4), NONE);
        x.flip(3, 0, 6);
        // LABELS 3, 8, 4 make 15: PLACE 7, whose other WORD 2, 7 is SOUND
        is("11: RULE 0", x.word(3, 0, 4), 7);
        x.rule(1);
        is("11: RULE 1", x.word(3, 0, 4), NONE);
        x.flip(1, 0, 7);
        is("11: RULE 1, the other is ODD", x.word(3, 0, 4), 7);
        x.flip(1, 1, 7);
        is("11: RULE 1, the other is STALLED", x.word(3, 0, 4), 7);
        is("11: asking mends nothing", x.count(4), 0);
    }

    /** 12: "NONE: it is SOUND. BAD; DOUBT; STALL." */
    private static void mendRefuses() {
        StairCodes x = new StairCodes();
        is("12: SOUND", x.mend(4, 7), NONE);
        x.flip(4, 7, 7);
        x.flip(4, 7, 6);
        is("12: STALLED", x.mend(4, 7), STALL);
        is("12: r 8", x.mend(3, 8), BAD);
        is("12: r -1", x.mend(4, -1), BAD);
        is("12: WORD 0", x.mend(0, 7), BAD);
        is("12: WORD 5", x.mend(5, 0), BAD);
        x.flip(4, 7, 0);
        // LABELS 8, 4, 3 make 15: PLACE 7 of BLOCK 3
        x.rule(1);
        is("12: DOUBTED", x.mend(4, 7), DOUBT);
        is("12: none is made", x.count(4), 0);
        is("12: none is turned", x.count(1), 3);
        x.rule(0);
        is("12: made", x.mend(4, 7), 7);
        journalIs("12", x, bit(3, 7, 7));
        is("12: SOUND now", x.mend(4, 7), NONE);
        is("12: its other WORD broke", x.word(3, 7, 2), 2);
    }

    /** 13: "first those with odd i, then those with even i, by i, by r" */
    private static void turnsGoOddThenEven() {
        StairCodes x = new StairCodes();
        spreadSingles(x);
        is("13: all", x.turn(1, 6), 7);
        journalIs("13: all", x, bit(1, 7, 0), bit(3, 0, 0), bit(2, 3, 4), bit(4, 1, 0), bit(5, 5, 5), bit(6, 1, 1), bit(6, 2, 2));
        is("13: none WRONG", x.count(1), 0);
    }

    /** WRONG BITS that have no WORD in common. */
    private static void spreadSingles(StairCodes x) {
        x.blocks(6);
        x.flip(6, 2, 2);
        x.flip(6, 1, 1);
        x.flip(5, 5, 5);
        x.flip(4, 1, 0);
        x.flip(3, 0, 0);
        x.flip(2, 3, 4);
        x.flip(1, 7, 0);
    }

    /** 13: "over BLOCKS from a to b": WORDS of others are not mended. */
    private static void turnsEndAtTheirBlocks() {
        StairCodes x = new StairCodes();
        spreadSingles(x);
        is("13: 2 to 5", x.turn(2, 5), 5);
        journalIs("13: 2 to 5", x, bit(3, 0, 0), bit(2, 3, 4), bit(4, 1, 0), bit(5, 5, 5), bit(1, 7, 0));
        is("13: BLOCK 6 is left", x.count(1), 2);
        spreadSingles(x);
        is("13: 1", x.turn(1, 1), 1);
        is("13: 6", x.turn(6, 6), 3);
        journalIs("13: 1, 6", x, bit(1, 7, 0), bit(6, 1, 1), bit(6, 2, 2), bit(5, 5, 5));
        is("13: 2 left", x.turn(4, 4), 2);
        is("13: last", x.turn(3, 3), 1);
        is("13: none left", x.turn(1, 6), 0);
    }

    /** 13: "each MENDED, if it is ODD (then)" */
    private static void turnsLookAtWordsThen() {
        StairCodes x = new StairCodes();
        // WORD 1, 0 guesses COLUMN 2 wrongly; WORDS 2, 0 to 2, 3, of which 2, 2 was SOUND, mend all
        x.flip(1, 0, 0);
        x.flip(1, 0, 1);
        x.flip(1, 0, 3);
        is("13: five", x.turn(1, 2), 5);
        journalIs("13: then", x, bit(1, 0, 2), bit(1, 0, 0), bit(1, 0, 1), bit(1, 0, 2), bit(1, 0, 3));
        is("13: none WRONG", x.count(1), 0);
        // of BLOCK 2 WORDS with odd i come first, so that 2, 0 is SOUND when it is looked at
        x.blocks(4);
        x.flip(2, 0, 0);
        x.flip(2, 0, 1);
        x.flip(2, 0, 3);
        is("13: three", x.turn(2, 3), 3);
    }

    /** 13: "BAD: BLOCKS, a above b" */
    private static void turnRefuses() {
        for (int k = 2; k <= 6; k++) {
            StairCodes x = States.ofBlocks(k);
            x.flip(1, 0, 0);
            x.flip(k, 7, 7);
            for (int a = -1; a <= k + 2; a++) {
                for (int b = -1; b <= k + 2; b++) {
                    if (a < 1 || b > k || a > b) {
                        is("13: K " + k + ", " + a + " to " + b, x.turn(a, b), BAD);
                    }
                }
            }
            is("13: nothing is mended", x.count(4), 0);
            is("13: 1 to K", x.turn(1, k), 2);
            is("13: 1 to 1", x.turn(1, 1), 0);
            is("13: K to K", x.turn(k, k), 0);
        }
    }

    /** 14: "TURNS .., until one turns nothing, T at most", T 1 to 9. */
    private static void windowsTurnTimesAtMost() {
        for (int turns = 1; turns <= 9; turns++) {
            StairCodes x = States.restless();
            is("14: T " + turns, x.window(1, 2, turns), turns);
            is("14: two in each", x.count(4), 2 * turns);
            is("14: six WRONG", x.count(1), 6);
            x.rule(1);
            is("14: DOUBTED", x.window(1, 2, turns), 0);
        }
        StairCodes x = States.restless();
        is("14: T 0", x.window(1, 2, 0), BAD);
        is("14: T 10", x.window(1, 2, 10), BAD);
        is("14: T -1", x.window(1, 2, -1), BAD);
        is("14: nothing is mended", x.count(4), 0);
    }

    /** 14: a path that is gone behind twelve TURNS takes two WINDOWS of nine. */
    private static void windowsOfALongPath() {
        for (int rule = 0; rule < 2; rule++) {
            StairCodes x = States.longPath();
            x.rule(rule);
            is("14: 47 are WRONG", x.count(1), 47);
            is("14: one PIECE", x.piece(0, 1), 48);
            is("14: nine TURNS", x.window(1, 6, 9), 9);
            is("14: 35 are mended", x.count(1), 12);
            is("14: THE JOURNAL", x.count(4), 35);
            is("14: three more", x.window(1, 6, 9), 3);
            is("14: all are mended", x.count(1), 0);
            is("14: no TURN more", x.window(1, 6, 9), 0);
        }
    }

    /** 14: "until one turns nothing": as many TURNS as turn something, and no more. */
    private static void windowsAreTurns() {
        for (int seed = 1; seed <= 40; seed++) {
            int k = 2 + seed % 5;
            for (int a = 1; a <= k; a++) {
                int n = 1 + (seed + a) % (k - a + 1);
                StairCodes x = hitByLots(k, seed);
                StairCodes y = hitByLots(k, seed);
                int turns = 1 + seed % 9;
                int some = 0;
                while (some < turns && y.turn(a, a + n - 1) > 0) {
                    some++;
                }
                String told = "14: seed " + seed + ", at " + a + ", SIZE " + n;
                is(told, x.window(a, n, turns), some);
                Look.alike(told, x, y, 0);
            }
        }
    }

    private static StairCodes hitByLots(int k, int seed) {
        StairCodes x = States.ofBlocks(k);
        x.rule(seed & 1);
        x.lots(seed, 4 + seed);
        return x;
    }

    /** 14: "BAD (its end, too)" */
    private static void windowsEndAtK() {
        for (int k = 2; k <= 6; k++) {
            StairCodes x = States.ofBlocks(k);
            for (int a = 1; a <= k; a++) {
                x.flip(k, 1, 2);
                is("14: ends at K", x.window(a, k - a + 1, 1), 1);
                x.flip(k, 1, 2);
                is("14: ends at K and 1", x.window(a, k - a + 2, 1), BAD);
                is("14: ends far away", x.window(a, MAX, 1), BAD);
                is("14: ends behind its start", x.window(a, 0, 1), BAD);
                is("14: far behind", x.window(a, MIN, 1), BAD);
                is("14: WRONG still", x.flip(k, 1, 2), 0);
            }
            is("14: at 0", x.window(0, 2, 1), BAD);
            is("14: at K and 1", x.window(k + 1, 1, 1), BAD);
            is("14: at -1", x.window(-1, 3, 1), BAD);
        }
    }

    /** "WINDOWS of a SIZE (2 to K) at 1, 2, and so on, as long as they end at K or ahead" */
    private static void slidesAreWindows() {
        for (int seed = 1; seed <= 30; seed++) {
            int k = 2 + seed % 5;
            for (int n = 2; n <= k; n++) {
                StairCodes x = hitByLots(k, seed);
                StairCodes y = hitByLots(k, seed);
                int turns = 1 + seed % 9;
                for (int a = 1; a <= k - n + 1; a++) {
                    y.window(a, n, turns);
                }
                String told = "15: seed " + seed + ", SIZE " + n;
                is(told, x.slide(n, turns), y.count(2));
                Look.alike(told, x, y, 0);
            }
        }
    }

    /** 15: SIZES 2 and K, T 1 and 9, and just outside. */
    private static void slidesAtTheEnds() {
        for (int k = 2; k <= 6; k++) {
            StairCodes x = States.ofBlocks(k);
            for (int turns : new int[] {1, 9}) {
                for (int n : new int[] {2, k}) {
                    x.flip(1, 0, 0);
                    x.flip(k, 7, 7);
                    is("15: SIZE " + n, x.slide(n, turns), 0);
                    is("15: none WRONG", x.count(1), 0);
                }
            }
            x.flip(k, 7, 7);
            is("15: SIZE 1", x.slide(1, 1), BAD);
            is("15: SIZE K and 1", x.slide(k + 1, 1), BAD);
            is("15: T 0", x.slide(2, 0), BAD);
            is("15: T 10", x.slide(2, 10), BAD);
            is("15: WRONG still", x.count(1), 1);
        }
        is("15: WORDS that are not SOUND", States.restless().slide(2, 9), 4);
    }

    /** 16: "The latest MEND .. leaves it: how many are left. NOT: it is empty." */
    private static void undoUpToTheFirst() {
        StairCodes x = new StairCodes();
        is("16: new", x.undo(), NOT);
        for (int n = 0; n < 62; n++) {
            x.flip(4, n / 8, n % 8);
            x.mend(4, n / 8);
        }
        for (int left = 59; left >= 0; left--) {
            is("16: left", x.undo(), left);
            is("16: WRONG", x.count(1), 60 - left);
        }
        is("16: none", x.undo(), NOT);
        is("16: two left THE JOURNAL before", x.block(4), -1L << 2 & (1L << 62) - 1);
    }

    /** 16: NOT, too, where THE JOURNAL became empty in other ways. */
    private static void undoOfEmptiedJournals() {
        StairCodes x = new StairCodes();
        x.flip(4, 0, 0);
        x.mend(4, 0);
        x.settle();
        is("16: settled", x.undo(), NOT);
        is("16: it stays mended", x.count(1), 0);
        x.flip(4, 0, 0);
        x.mend(4, 0);
        x.blocks(4);
        is("16: new BLOCKS", x.undo(), NOT);
        x.flip(4, 0, 0);
        x.mend(4, 0);
        x.flip(4, 0, 1);
        is("16: back", x.back(), 1);
        is("16: taken back", x.undo(), NOT);
    }

    /** 16: "its BIT turned", whatever it was meanwhile. */
    private static void undoTurnsTheBit() {
        StairCodes x = new StairCodes();
        x.flip(4, 0, 0);
        x.mend(4, 0);
        x.flip(4, 0, 0);
        is("16: undo", x.undo(), 0);
        is("16: not WRONG", x.count(1), 0);
        is("16: not HIT", x.bit(4, 0, 0, 3), 0);
        x.flip(4, 0, 0);
        x.mend(4, 0);
        x.data(4, 0, 1);
        is("16: undo under other DATA", x.undo(), 0);
        is("16: WRONG", x.bit(4, 0, 0, 2), 1);
        is("16: NOW", x.bit(4, 0, 0, 0), 0);
    }

    /** 17: "one none of whose BIT's WORDS is SOUND": of BLOCK K it has one WORD, else two. */
    private static void backLooksAtItsWords() {
        StairCodes x = new StairCodes();
        is("17: empty", x.back(), 0);
        x.flip(4, 0, 0);
        x.mend(4, 0);
        is("17: SOUND", x.back(), 0);
        x.flip(4, 0, 1);
        x.flip(4, 0, 2);
        is("17: STALLED", x.back(), 1);
        x.blocks(4);
        x.flip(2, 1, 3);
        x.mend(2, 1);
        x.flip(2, 1, 4);
        is("17: WORD 3, 3 is SOUND", x.back(), 0);
        x.flip(2, 1, 4);
        x.flip(2, 5, 3);
        is("17: WORD 2, 1 is SOUND", x.back(), 0);
        x.flip(1, 0, 1);
        is("17: none is SOUND", x.back(), 1);
        is("17: WRONG again", x.bit(2, 1, 3, 2), 1);
        is("17: empty then", x.count(4), 0);
    }

    /** 17: of each BIT these two WORDS are looked at, and no other. */
    private static void backLooksAtNoOtherWords() {
        for (int place = 0; place < 64; place++) {
            StairCodes x = new StairCodes();
            int r = place / 8;
            int c = place % 8;
            x.flip(2, r, c);
            x.mend(2, r);
            x.flip(1, 0, r);
            is("17: WORD 3, c is SOUND yet", x.back(), 0);
            x.flip(3, c, 7);
            is("17: neither is", x.back(), 1);
            x.blocks(4);
            x.flip(2, r, c);
            x.mend(2, r);
            x.lots(1, 256);
            // all BITS: WORDS 2, r and 3, c are SOUND; those of two other ROWS are ODD
            x.flip(1, 0, (r + 1) % 8);
            x.flip(3, (c + 1) % 8, 7);
            is("17: both are SOUND", x.back(), 0);
        }
    }

    /** 17: "the latest first", WORDS as they are then; of one BIT twice, too. */
    private static void backTakesTheLatestFirst() {
        StairCodes x = new StairCodes();
        x.flip(4, 0, 0);
        x.mend(4, 0);
        x.flip(4, 0, 0);
        x.mend(4, 0);
        x.flip(4, 0, 0);
        is("17: the latest makes it SOUND", x.back(), 1);
        is("17: none WRONG", x.count(1), 0);
        is("17: one is left", x.count(4), 1);
        x.settle();
        x.flip(4, 0, 0);
        x.mend(4, 0);
        x.flip(4, 0, 0);
        x.mend(4, 0);
        x.flip(4, 0, 1);
        is("17: both", x.back(), 2);
        is("17: COLUMN 1 alone is WRONG", x.row(4, 0, 0), 2);
        // COLUMNS 0 and 1 are WRONG, STALLED; the latest MEND taken back, it is ODD; the older one, too, SOUND
        x.blocks(4);
        x.flip(4, 0, 1);
        x.mend(4, 0);
        x.flip(4, 0, 0);
        x.mend(4, 0);
        x.flip(4, 0, 1);
        x.flip(4, 0, 0);
        is("17: two, one behind another", x.back(), 2);
        is("17: all right", x.count(1), 0);
    }

    /** 17: MENDS that left THE JOURNAL are not taken back, though their WORDS are not SOUND. */
    private static void backForgetsWhatLeft() {
        StairCodes x = new StairCodes();
        x.flip(4, 0, 0);
        x.mend(4, 0);
        x.undo();
        is("17: undone", x.back(), 0);
        is("17: WRONG still", x.count(1), 1);
        x.mend(4, 0);
        x.settle();
        x.flip(4, 0, 1);
        is("17: settled", x.back(), 0);
        is("17: ODD still", x.row(4, 0, 0), 2);
        x.mend(4, 0);
        x.blocks(4);
        x.flip(4, 0, 1);
        is("17: new BLOCKS", x.back(), 0);
        x.blocks(4);
        x.flip(4, 0, 0);
        x.mend(4, 0);
        for (int n = 0; n < 60; n++) {
            x.flip(4, 7, 7);
            x.mend(4, 7);
        }
        x.flip(4, 0, 1);
        is("17: left behind sixty", x.back(), 0);
        is("17: sixty still", x.count(4), 60);
        x.undo();
        is("17: the latest but one, which makes it SOUND", x.back(), 1);
        is("17: the others stay", x.count(4), 58);
        is("17: ROW 0 still", x.row(4, 0, 0), 2);
    }

    /** 17: of a JOURNAL that had more than 60, some are taken from its middle; the others keep their order. */
    private static void backTakesFromTheMiddle() {
        StairCodes x = new StairCodes();
        List<Integer> left = new ArrayList<>();
        for (int n = 0; n < 70; n++) {
            int r = n % 8;
            x.flip(4, r, 7 - r);
            x.mend(4, r);
            if (n >= 10 && r != 5) {
                left.add(bit(4, r, 7 - r));
            }
        }
        x.flip(4, 5, 6);
        is("17: those of ROW 5", x.back(), 8);
        is("17: left", x.count(4), 52);
        for (int n = 0; n < 52; n++) {
            is("17: left " + n, x.journal(n), left.get(n));
        }
        is("17: eight times turned", x.count(1), 1);
        x.flip(4, 5, 0);
        x.mend(4, 6);
        is("17: none of these", x.back(), 0);
    }

    /** 18: "THE JOURNAL is empty, BITS stay: how many it had": none, 60. */
    private static void settleOfNoneAndOfSixty() {
        StairCodes x = new StairCodes();
        is("18: none", x.settle(), 0);
        for (int n = 0; n < 61; n++) {
            x.flip(4, 7, 7);
            x.mend(4, 7);
        }
        is("18: sixty", x.settle(), 60);
        is("18: none then", x.settle(), 0);
        is("18: BITS stay", x.count(1), 0);
        is("18: no MEND", x.journal(0), BAD);
        x.flip(3, 3, 3);
        x.mend(3, 3);
        journalIs("18: a new one", x, bit(3, 3, 3));
    }

    /** 19: "(0: the oldest)", up to as many as there are. */
    private static void journalEnds() {
        StairCodes x = new StairCodes();
        is("19: empty", x.journal(0), BAD);
        is("19: -1 of none", x.journal(-1), BAD);
        x.flip(1, 0, 0);
        x.mend(1, 0);
        is("19: the least BIT", x.journal(0), 64);
        is("19: 1 of one", x.journal(1), BAD);
        x.blocks(6);
        is("19: new BLOCKS", x.journal(0), BAD);
        x.flip(6, 7, 7);
        x.mend(6, 7);
        is("19: the last BIT", x.journal(0), 447);
        x.undo();
        is("19: undone", x.journal(0), BAD);
        for (int k : new int[] {-1, 59, 60, MIN, MAX}) {
            is("19: " + k, x.journal(k), BAD);
        }
    }

    public static void main(String[] args) {
        wordsHaveUpToSixteenWrong();
        wordsAreOddByTurns();
        wordTellsNoPlace();
        mendsOfEachPlace();
        mendRefuses();
        turnsGoOddThenEven();
        turnsEndAtTheirBlocks();
        turnsLookAtWordsThen();
        turnRefuses();
        windowsTurnTimesAtMost();
        windowsOfALongPath();
        windowsAreTurns();
        windowsEndAtK();
        slidesAreWindows();
        slidesAtTheEnds();
        undoUpToTheFirst();
        undoOfEmptiedJournals();
        undoTurnsTheBit();
        backLooksAtItsWords();
        backLooksAtNoOtherWords();
        backTakesTheLatestFirst();
        backForgetsWhatLeft();
        backTakesFromTheMiddle();
        settleOfNoneAndOfSixty();
        journalEnds();
        Due.end();
    }
}
