import java.util.NoSuchElementException;
import java.util.Random;
import java.util.function.LongSupplier;

/**
 * Runs of 512 calls, drawn from fixed seeds, on the class and on the plain valley: each answer
 * must be alike. A run that differs prints its seed and the first call that does.
 */
public final class RandomRunsTest {
    private static final int RUNS = 1500;
    private static final int CALLS = 512;
    private static final int CALL_KINDS = 22;
    private static final int THROWN = -77777777;

    private final Random random;
    private final WatchValley valley = new WatchValley();
    private final PlainValley plain = new PlainValley();
    private final int[] weights = new int[CALL_KINDS];
    private final int spread;
    private String call = "";

    private RandomRunsTest(long seed) {
        random = new Random(seed);
        spread = 1 + random.nextInt(seed % 2 == 0 ? 6 : 40);
        for (int i = 0; i < CALL_KINDS; i++) {
            weights[i] = 1 + random.nextInt(i == 5 || i == 16 || i == 4 ? 30 : 10);
        }
    }

    public static void main(String[] args) {
        Check check = new Check();
        for (long seed = 0; seed < RUNS; seed++) {
            new RandomRunsTest(seed).run(check, seed);
        }
        check.end();
    }

    private void run(Check check, long seed) {
        for (int i = 0; i < CALLS; i++) {
            LongSupplier[] both = next();
            long got = answer(both[0]);
            long due = answer(both[1]);
            check.same("seed " + seed + ", call " + i + ": " + call, got, due);
            if (got != due) {
                return;
            }
        }
        compareAll(check, seed);
    }

    private void compareAll(Check check, long seed) {
        String where = "seed " + seed + ", at the end: ";
        for (int lot = 0; lot < valley.count(2); lot++) {
            for (int what = 0; what <= 5; what++) {
                check.same(where + "lot " + lot + " " + what, valley.lot(lot, what), plain.lot(lot, what));
            }
            for (int i = 0; i < valley.lot(lot, 1); i++) {
                check.same(where + "at " + lot + " " + i, valley.at(lot, i), plain.at(lot, i));
            }
        }
        for (int p = 0; p < valley.count(3); p++) {
            for (int what = 0; what <= 5; what++) {
                check.same(where + "piece " + p + " " + what, valley.piece(p, what), plain.piece(p, what));
            }
        }
        for (int home = 0; home < valley.count(1); home++) {
            for (int what = 0; what <= 6; what++) {
                check.same(where + "of " + home + " " + what, valley.of(home, what), plain.of(home, what));
            }
            for (int known = 0; known <= valley.count(0); known++) {
                check.same(where + "due " + home + " " + known, valley.due(home, known), plain.due(home, known));
            }
        }
        for (int w = 0; w < valley.count(5); w++) {
            for (int what = 0; what <= 4; what++) {
                check.same(where + "watch " + w + " " + what, valley.watch(w, what), plain.watch(w, what));
            }
        }
    }

    private static long answer(LongSupplier asked) {
        try {
            return asked.getAsLong();
        } catch (NoSuchElementException thrown) {
            return THROWN;
        }
    }

    /** Mostly from low to high, now and then just outside or far off. */
    private int near(int low, int high) {
        int draw = random.nextInt(60);
        if (draw == 0) {
            return low - 1;
        }
        if (draw == 1) {
            return high + 1;
        }
        if (draw == 2) {
            return random.nextBoolean() ? Integer.MIN_VALUE : Integer.MAX_VALUE;
        }
        return high < low ? low : low + random.nextInt(high - low + 1);
    }

    private int someLot() {
        return near(0, valley.count(2) - 1);
    }

    /** Mostly a LOT of this KIND, at HOUSE, not too great for THE MAKING. */
    private int someLot(int kind) {
        for (int i = 0; i < 20; i++) {
            int lot = someLot();
            if (valley.lot(lot, 0) == kind && valley.lot(lot, 2) == 0 && valley.lot(lot, 1) <= 10) {
                return lot;
            }
        }
        return someLot();
    }

    private int someHome() {
        return near(0, valley.count(1) - 1);
    }

    private int somePiece() {
        return near(0, valley.count(3) - 1);
    }

    private int kindOfCall() {
        int sum = 0;
        for (int weight : weights) {
            sum += weight;
        }
        int draw = random.nextInt(sum);
        int kind = 0;
        while (draw >= weights[kind]) {
            draw -= weights[kind];
            kind++;
        }
        return kind;
    }

    private static int bit(boolean answer) {
        return answer ? 1 : 0;
    }

    private LongSupplier[] pair(String text, LongSupplier a, LongSupplier b) {
        call = text;
        return new LongSupplier[] {a, b};
    }

    private LongSupplier[] next() {
        int kind = kindOfCall();
        return kind < 6 ? nextChange(kind) : kind < 14 ? nextQuestion(kind) : nextWatch(kind);
    }

    private LongSupplier[] nextChange(int kind) {
        switch (kind) {
            case 0: {
                int a = near(1, 20), b = near(-2, 2), c = near(0, 12), d = near(0, 3);
                return pair("home " + a + " " + b + " " + c + " " + d,
                        () -> valley.home(a, b, c, d), () -> plain.home(a, b, c, d));
            }
            case 1: {
                int a = near(0, 2), b = near(1, random.nextInt(8) == 0 ? 30 : 8);
                int c = near(-spread, spread), d = near(-2, 2);
                return pair("raw " + a + " " + b + " " + c + " " + d,
                        () -> valley.raw(a, b, c, d), () -> plain.raw(a, b, c, d));
            }
            case 2: {
                int a = someLot(), b = near(0, Math.max(0, valley.lot(a, 1)));
                return pair("split " + a + " " + b, () -> valley.split(a, b), () -> plain.split(a, b));
            }
            case 3: {
                int a = someLot(), b = random.nextBoolean() ? someLot() : someLot(valley.lot(a, 0));
                return pair("join " + a + " " + b, () -> valley.join(a, b), () -> plain.join(a, b));
            }
            case 4: {
                int a = someLot(), b = someHome();
                return pair("send " + a + " " + b, () -> bit(valley.send(a, b)), () -> bit(plain.send(a, b)));
            }
            default: {
                boolean a = random.nextInt(4) == 0;
                return pair("day " + a, () -> valley.day(a), () -> plain.day(a));
            }
        }
    }

    private LongSupplier[] nextQuestion(int kind) {
        switch (kind) {
            case 6: {
                int a = near(0, 7);
                return pair("count " + a, () -> valley.count(a), () -> plain.count(a));
            }
            case 7: {
                int a = someLot(), b = near(0, 5);
                return pair("lot " + a + " " + b, () -> valley.lot(a, b), () -> plain.lot(a, b));
            }
            case 8: {
                int a = someLot(), b = near(0, valley.lot(a, 1) - 1);
                return pair("at " + a + " " + b, () -> valley.at(a, b), () -> plain.at(a, b));
            }
            case 9: {
                int a = somePiece(), b = near(0, 5);
                return pair("piece " + a + " " + b, () -> valley.piece(a, b), () -> plain.piece(a, b));
            }
            case 10: {
                int a = someHome(), b = near(0, 6);
                return pair("of " + a + " " + b, () -> valley.of(a, b), () -> plain.of(a, b));
            }
            case 11: {
                int a = someHome(), c = near(0, 1000);
                int b = random.nextInt(4) == 0 ? near(0, 400) : near(0, valley.count(0) + 3);
                return pair("wage " + a + " " + b + " " + c,
                        () -> valley.wage(a, b, c), () -> plain.wage(a, b, c));
            }
            case 12: {
                int a = someHome(), b = near(0, valley.count(0));
                return pair("due " + a + " " + b, () -> valley.due(a, b), () -> plain.due(a, b));
            }
            default: {
                int a = near(0, 1), b = near(-spread / 2, spread / 2), c = near(b, b + 1 + spread / 3);
                return pair("fit " + a + " " + b + " " + c,
                        () -> bit(valley.fit(a, b, c)), () -> bit(plain.fit(a, b, c)));
            }
        }
    }

    private LongSupplier[] nextWatch(int kind) {
        switch (kind) {
            case 14: {
                int a = somePiece(), b = somePiece();
                return pair("fits " + a + " " + b, () -> valley.fits(a, b), () -> plain.fits(a, b));
            }
            case 15: {
                int a = someLot(0), b = someLot(1), c = someLot(2);
                return pair("most " + a + " " + b + " " + c,
                        () -> valley.most(a, b, c), () -> plain.most(a, b, c));
            }
            case 16: {
                int a = someLot(0), b = someLot(1), c = someLot(2);
                return pair("make " + a + " " + b + " " + c,
                        () -> valley.make(a, b, c), () -> plain.make(a, b, c));
            }
            case 17: {
                int a = near(0, valley.count(5) - 1), b = near(0, 4);
                return pair("watch " + a + " " + b, () -> valley.watch(a, b), () -> plain.watch(a, b));
            }
            case 18: {
                int a = near(0, valley.count(5) - 1);
                boolean b = random.nextInt(3) > 0;
                return pair("back " + a + " " + b, () -> bit(valley.back(a, b)), () -> bit(plain.back(a, b)));
            }
            case 19: {
                int a = someHome(), b = near(0, 1);
                return pair("counts " + a + " " + b, () -> valley.counts(a, b), () -> plain.counts(a, b));
            }
            case 20: {
                int a = near(1, random.nextInt(8) == 0 ? 100 : 4);
                return pair("suspect " + a, () -> valley.suspect(a), () -> plain.suspect(a));
            }
            default: {
                int a = someLot();
                return pair("recall " + a, () -> valley.recall(a), () -> plain.recall(a));
            }
        }
    }
}
