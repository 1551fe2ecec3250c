import java.util.Random;

/** Long runs of calls, right and wrong ones, on the class and on PlainModel: the answers are alike. */
public final class ModelTest {
    private static final int RUNS = 240;
    private static final int CALLS = 400;

    private final Random dice;
    private final int run;
    private StairCodes x = new StairCodes();
    private PlainModel m = new PlainModel();
    private int k = 4;
    private int calls = 0;

    private ModelTest(int run) {
        this.run = run;
        dice = new Random(run);
    }

    /** Mostly low to high, now and then just outside, seldom far outside. */
    private int near(int low, int high) {
        int fate = dice.nextInt(60);
        if (fate == 0) {
            return low - 1;
        }
        if (fate == 1) {
            return high + 1;
        }
        if (fate == 2) {
            return dice.nextBoolean() ? Integer.MIN_VALUE : Integer.MAX_VALUE;
        }
        return low + dice.nextInt(high - low + 1);
    }

    private int i() {
        return near(1, k);
    }

    private int o() {
        return near(0, 7);
    }

    private void same(String call, long got, long want) {
        Due.is("run " + run + ", call " + calls + ": " + call, got, want);
    }

    private void hitSome() {
        int a = i(), b = o(), c = o();
        switch (dice.nextInt(6)) {
            case 0 -> {
                int seed = dice.nextInt(), n = dice.nextInt(8) == 0 ? near(0, 256) : near(0, 12);
                same("lots " + seed + " " + n, x.lots(seed, n), m.lots(seed, n));
            }
            case 1 -> same("read " + a + " " + b, x.read(a, b / 2), m.read(a, b / 2));
            case 2 -> {
                int v = o();
                same("data " + a + " " + b + " " + v, x.data(a, b, v), m.data(a, b, v));
            }
            default -> same("flip " + a + " " + b + " " + c, x.flip(a, b, c), m.flip(a, b, c));
        }
    }

    private void mendSome() {
        int a = i(), b = i(), r = o(), t = near(1, 9), n = near(1, k);
        switch (dice.nextInt(12)) {
            case 0 -> same("turn " + a + " " + b, x.turn(a, b), m.turn(a, b));
            case 1 -> same("window " + a + " " + n + " " + t, x.window(a, n, t), m.window(a, n, t));
            case 2 -> same("slide " + n + " " + t, x.slide(n, t), m.slide(n, t));
            case 3 -> same("undo", x.undo(), m.undo());
            case 4 -> same("back", x.back(), m.back());
            case 5 -> {
                if (dice.nextInt(4) == 0) {
                    same("settle", x.settle(), m.settle());
                }
            }
            case 6 -> {
                int v = near(0, 1);
                same("rule " + v, x.rule(v), m.rule(v));
            }
            default -> same("mend " + a + " " + r, x.mend(a, r), m.mend(a, r));
        }
    }

    private void askSome() {
        int a = i(), r = o(), c = o(), what = near(0, 4), t = near(1, 9), n = near(2, k), s = near(0, 20);
        switch (dice.nextInt(12)) {
            case 0 -> same("bit " + a + " " + r + " " + c + " " + what, x.bit(a, r, c, what), m.bit(a, r, c, what));
            case 1 -> same("row " + a + " " + r + " " + what, x.row(a, r, what), m.row(a, r, what));
            case 2 -> same("block " + a, x.block(a), m.block(a));
            case 3 -> same("word " + a + " " + r + " " + what, x.word(a, r, what), m.word(a, r, what));
            case 4 -> same("journal " + s, x.journal(s), m.journal(s));
            case 5 -> same("stall " + s, x.stall(s), m.stall(s));
            case 6 -> same("piece " + s / 4 + " " + what, x.piece(s / 4, what), m.piece(s / 4, what));
            case 7 -> same("around " + a + " " + r + " " + c, x.around(a, r, c), m.around(a, r, c));
            case 8 -> {
                int rule = near(0, 1);
                same("would " + n + " " + t + " " + rule, x.would(n, t, rule), m.would(n, t, rule));
            }
            case 9 -> same("best " + t, x.best(t), m.best(t));
            case 10 -> {
                int w = near(0, 8);
                same("count " + w, x.count(w), m.count(w));
            }
            default -> same("digest", x.digest(), m.digest());
        }
    }

    private void useSheets() {
        int s = near(0, 3), t = near(0, 3), form = near(0, 2), a = i();
        int p = near(0, 64), q = near(0, 64), n = near(0, 20);
        switch (dice.nextInt(10)) {
            case 0 -> same("sheet " + s + " " + form + " " + p, x.sheet(s, form, p), m.sheet(s, form, p));
            case 1 -> {
                if (dice.nextInt(3) == 0) {
                    same("lose " + s, x.lose(s), m.lose(s));
                }
            }
            case 2 -> same("get " + s + " " + p, x.get(s, p), m.get(s, p));
            case 3 -> {
                String call = "copy " + s + " " + p + " " + t + " " + q + " " + n;
                same(call, x.copy(s, p / 2, t, q / 2, n), m.copy(s, p / 2, t, q / 2, n));
            }
            case 4 -> same("write " + a + " " + s, x.write(a, s), m.write(a, s));
            default -> {
                int v = dice.nextInt(9) - 4;
                same("put " + s + " " + form + " " + p, x.put(s, form, p, v), m.put(s, form, p, v));
            }
        }
        same("count 8", x.count(8), m.count(8));
    }

    private void go() {
        int manner = run % 4;
        while (calls < CALLS && !Due.anyWrong()) {
            calls++;
            int fate = dice.nextInt(100);
            if (fate == 0) {
                int n = near(2, 6);
                same("blocks " + n, x.blocks(n), m.blocks(n));
                k = x.count(0);
            } else if (fate < 15 + 10 * manner) {
                hitSome();
            } else if (fate < 60) {
                mendSome();
            } else if (fate < 78) {
                useSheets();
            } else {
                askSome();
            }
        }
        same("the end's digest", x.digest(), m.digest());
    }

    public static void main(String[] args) {
        for (int run = 0; run < RUNS; run++) {
            new ModelTest(run).go();
        }
        Due.end();
    }
}
