import java.util.Random;

/** THE MAKING (promises 17, 18) of rows drawn from fixed seeds, against the plain valley. */
public final class MakingTest {
    private static final int RUNS = 3000;

    public static void main(String[] args) {
        Check check = new Check();
        for (int seed = 0; seed < RUNS; seed++) {
            compare(check, seed);
        }
        check.end();
    }

    private static void compare(Check check, int seed) {
        Random random = new Random(seed);
        WatchValley valley = new WatchValley();
        PlainValley plain = new PlainValley();
        int spread = 3 + random.nextInt(20);
        int longest = seed % 3 == 0 ? 10 : 7;
        for (int kind = 0; kind < 3; kind++) {
            int n = longest - random.nextInt(4);
            for (int i = 0; i < n; i++) {
                int size = random.nextInt(2 * spread + 1) - spread;
                int lot = valley.raw(kind, 1, size, 0);
                plain.raw(kind, 1, size, 0);
                if (i > 0) {
                    valley.join(lot - i, lot);
                    plain.join(lot - i, lot);
                }
            }
        }
        for (int what = 0; what < 2; what++) {
            int low = random.nextInt(5) - 2 - spread / 3;
            int high = low + 1 + random.nextInt(spread);
            valley.fit(what, low, high);
            plain.fit(what, low, high);
        }
        int wheels = 1;
        while (valley.lot(wheels, 0) == 0) {
            wheels++;
        }
        int stones = wheels + 1;
        while (valley.lot(stones, 0) == 1) {
            stones++;
        }
        String where = "seed " + seed + ": ";
        check.same(where + "most", valley.most(0, wheels, stones), plain.most(0, wheels, stones));
        int made = plain.make(0, wheels, stones);
        check.same(where + "make", valley.make(0, wheels, stones), made);
        for (int w = 0; w < made; w++) {
            for (int what = 0; what < 3; what++) {
                check.same(where + "watch " + w + " " + what, valley.watch(w, what), plain.watch(w, what));
            }
        }
    }
}
