/** Promises 15 to 23: what fits, the making, watches that come back, suspects and recalls. */
public final class WatchTest {
    private static final Check CHECK = new Check();
    private static final int NONE = WatchValley.NONE;
    private static final int LEAST = Integer.MIN_VALUE;
    private static final int GREATEST = Integer.MAX_VALUE;

    public static void main(String[] args) {
        promise15Fit();
        promise16Fits();
        promise16FitsOfPiecesGone();
        promise17Most();
        promise17MostNeedsBoth();
        promise17And18Lots();
        promise17And18TenPieces();
        promise18MakeSet();
        promise18MakeMates();
        promise18MakeLongChain();
        promise18MakeRest();
        promise18MakeHundred();
        promise19Watch();
        promise20Back();
        promise21Counts();
        promise22Suspect();
        promise22SuspectEqual();
        promise23Recall();
        CHECK.end();
    }

    private static int ask(boolean answer) {
        return answer ? 1 : 0;
    }

    /** A LOT at HOUSE of PIECES of these SIZES. */
    private static int lotOf(WatchValley v, int kind, int... sizes) {
        int lot = NONE;
        for (int size : sizes) {
            int next = v.raw(kind, 1, size, 0);
            if (lot == NONE) {
                lot = next;
            } else {
                v.join(lot, next);
            }
        }
        return lot;
    }

    private static void watchIs(WatchValley v, int w, int plate, int wheel, int stone) {
        CHECK.same("PLATE of WATCH " + w, v.watch(w, 0), plate);
        CHECK.same("WHEEL of WATCH " + w, v.watch(w, 1), wheel);
        CHECK.same("STONE of WATCH " + w, v.watch(w, 2), stone);
    }

    private static void promise15Fit() {
        WatchValley v = new WatchValley();
        v.raw(0, 3, -1, 1);
        v.raw(1, 3, -1, 1);
        v.raw(2, 3, -1, 1);
        CHECK.same("at first all 0", v.fits(1, 4), 1);
        CHECK.same("at first not 1 more", v.fits(2, 4), 0);
        CHECK.same("at first not 1 less", v.fits(0, 4), 0);
        CHECK.same("at first all 0, STONE", v.fits(4, 7), 1);
        CHECK.same("at first not 1 more, STONE", v.fits(5, 7), 0);
        CHECK.same("at first not 1 less, STONE", v.fits(3, 7), 0);
        for (int bad : new int[] {LEAST, -1, 2, GREATEST}) {
            CHECK.falsely(v, "fit of what " + bad, () -> ask(v.fit(bad, -5, 5)));
        }
        for (int what = 0; what <= 1; what++) {
            int told = what;
            CHECK.falsely(v, "fit, low above high", () -> ask(v.fit(told, 1, 0)));
            CHECK.falsely(v, "fit, low far above high", () -> ask(v.fit(told, GREATEST, LEAST)));
        }
        CHECK.same("low is high", v.fit(0, 1, 1), true);
        CHECK.same("1 more", v.fits(2, 4), 1);
        CHECK.same("no longer 0 more", v.fits(1, 4), 0);
        CHECK.same("STONES as before", v.fits(4, 7), 1);
        CHECK.same("fit of STONES", v.fit(1, -1, -1), true);
        CHECK.same("1 less", v.fits(3, 7), 1);
        CHECK.same("no longer 0 less", v.fits(4, 7), 0);
        CHECK.same("PLATES as before", v.fits(2, 4), 1);
        CHECK.same("the widest", v.fit(0, LEAST, GREATEST), true);
        CHECK.same("all fit", v.fits(0, 5), 1);
        CHECK.same("none can", v.fit(0, GREATEST, GREATEST), true);
        CHECK.same("none fit", v.fits(0, 5), 0);
        CHECK.same("none can, below", v.fit(0, LEAST, LEAST), true);
        CHECK.same("none fit below", v.fits(0, 5), 0);
    }

    private static void promise16Fits() {
        WatchValley v = new WatchValley();
        v.raw(0, 1, 10, 0);
        v.raw(1, 4, 4, 1);
        v.raw(2, 4, 1, 1);
        v.fit(0, 4, 5);
        v.fit(1, -1, 2);
        int[] plate = {0, 1, 1, 0};
        for (int i = 0; i < 4; i++) {
            CHECK.same("fits(0, " + (1 + i) + ")", v.fits(0, 1 + i), plate[i]);
            CHECK.same("fits the other way round", v.fits(1 + i, 0), NONE);
        }
        int[] stone = {0, 1, 1, 1};
        for (int i = 0; i < 4; i++) {
            CHECK.same("fits(1, " + (5 + i) + ")", v.fits(1, 5 + i), stone[i]);
            CHECK.same("fits the other way round", v.fits(5 + i, 1), NONE);
        }
        CHECK.same("PLATE and STONE", v.fits(0, 5), NONE);
        CHECK.same("STONE and PLATE", v.fits(5, 0), NONE);
        CHECK.same("two PLATES", v.fits(0, 0), NONE);
        CHECK.same("two WHEELS", v.fits(1, 2), NONE);
        CHECK.same("two STONES", v.fits(5, 6), NONE);
        for (int bad : new int[] {LEAST, -1, 9, 300, GREATEST}) {
            CHECK.refused(v, "fits(0, " + bad + ")", () -> v.fits(0, bad));
            CHECK.refused(v, "fits(" + bad + ", 1)", () -> v.fits(bad, 1));
        }
    }

    private static void promise16FitsOfPiecesGone() {
        WatchValley v = new WatchValley();
        v.home(5, 3, 2, 0);
        v.raw(0, 2, 0, 0);
        v.raw(1, 2, 0, 0);
        v.raw(2, 2, 0, 0);
        v.send(1, 0);
        v.day(false);
        v.day(false);
        CHECK.same("by the SIZE as worked", v.fits(0, 2), 0);
        v.fit(0, -3, -3);
        CHECK.same("by the SIZE as worked", v.fits(0, 2), 1);
        CHECK.same("of a BROKEN one", v.fits(0, 3), 1);
        v.fit(1, 3, 3);
        CHECK.same("make", v.make(0, 1, 2), 1);
        CHECK.same("of two in a WATCH", v.fits(2, 4), 1);
    }

    private static void promise17Most() {
        WatchValley v = new WatchValley();
        int plates = lotOf(v, 0, 0, 0, 1);
        int wheels = lotOf(v, 1, 0, 1, 1, 2);
        int stones = lotOf(v, 2, 1, 2, 0, 1);
        CHECK.same("most", v.most(plates, wheels, stones), 2);
        v.fit(0, -1, 0);
        // PLATES 0, 0, 1 to WHEELS 0 (0), 1 (0, 0, 1), 1, 2 (1)
        CHECK.same("most, wider", v.most(plates, wheels, stones), 3);
        String before = Picture.of(v);
        v.most(plates, wheels, stones);
        CHECK.same("the valley behind most", Picture.of(v), before);
        v.fit(1, 50, 60);
        CHECK.same("none", v.most(plates, wheels, stones), 0);
        int empty = v.split(plates, 0);
        CHECK.same("an empty LOT", v.most(empty, wheels, stones), 0);
        CHECK.same("an empty LOT, make", v.make(empty, wheels, stones), 0);
    }

    /** Each side alone could have 2, but no set of two WHEELS has both. */
    private static void promise17MostNeedsBoth() {
        WatchValley v = new WatchValley();
        int plates = lotOf(v, 0, 0, 10);
        int wheels = lotOf(v, 1, 0, 0, 10);
        int stones = lotOf(v, 2, 0, 0);
        CHECK.same("one WHEEL alone", v.most(plates, wheels, stones), 1);
        CHECK.same("one WHEEL alone, make", v.make(plates, wheels, stones), 1);
        watchIs(v, 0, 0, 2, 5);
    }

    private static void promise17And18Lots() {
        WatchValley v = new WatchValley();
        v.home(1, 0, 0, 1);
        v.raw(0, 2, 0, 0);
        v.raw(1, 2, 0, 0);
        v.raw(2, 2, 0, 0);
        int[][] bad = {
            {1, 1, 2}, {2, 1, 2}, {0, 0, 2}, {0, 2, 2}, {0, 1, 0}, {0, 1, 1}, {2, 1, 0},
            {-1, 1, 2}, {0, -1, 2}, {0, 1, -1}, {3, 1, 2}, {0, 3, 2}, {0, 1, 3},
            {LEAST, 1, 2}, {0, GREATEST, 2}, {0, 1, GREATEST},
        };
        for (int[] lots : bad) {
            String text = lots[0] + ", " + lots[1] + ", " + lots[2];
            CHECK.refused(v, "most of " + text, () -> v.most(lots[0], lots[1], lots[2]));
            CHECK.refused(v, "make of " + text, () -> v.make(lots[0], lots[1], lots[2]));
        }
        for (int lot = 0; lot < 3; lot++) {
            v.send(lot, 0);
            for (int i = 0; i < 4; i++) {
                CHECK.refused(v, "most with an OUT one", () -> v.most(0, 1, 2));
                CHECK.refused(v, "make with an OUT one", () -> v.make(0, 1, 2));
                if (i < 3) {
                    v.day(i == 2);
                }
            }
            v.day(false);
        }
        CHECK.same("all are back", v.count(7), 0);
        CHECK.same("and can be made", v.make(0, 1, 2), 2);
    }

    private static void promise17And18TenPieces() {
        WatchValley v = new WatchValley();
        for (int kind = 0; kind < 3; kind++) {
            v.raw(kind, 11, 0, 0);
        }
        int[] ten = new int[3];
        for (int kind = 0; kind < 3; kind++) {
            CHECK.refused(v, "most of 11", () -> v.most(0, 1, 2));
            CHECK.refused(v, "make of 11", () -> v.make(0, 1, 2));
            ten[kind] = v.split(kind, 1);
        }
        CHECK.same("most of 10", v.most(0, 1, 2), 10);
        CHECK.same("make of 10", v.make(0, 1, 2), 10);
        for (int i = 0; i < 10; i++) {
            watchIs(v, i, 1 + i, 12 + i, 23 + i);
        }
        CHECK.same("the eleventh", v.make(ten[0], ten[1], ten[2]), 1);
        watchIs(v, 10, 0, 11, 22);
    }

    private static void promise18MakeSet() {
        WatchValley v = new WatchValley();
        // one PLATE for WHEELS 0 and 1, one for 2 and 3: the first of each is taken
        int plates = lotOf(v, 0, 20, 0);
        int wheels = lotOf(v, 1, 0, 0, 20, 20);
        int stones = lotOf(v, 2, 0, 20, 0, 20);
        CHECK.same("two", v.make(plates, wheels, stones), 2);
        watchIs(v, 0, 1, 2, 6);
        watchIs(v, 1, 0, 4, 7);
        CHECK.row(v, plates);
        CHECK.row(v, wheels, 3, 5);
        CHECK.row(v, stones, 8, 9);

        WatchValley w = new WatchValley();
        // no STONE fits the first WHEEL
        plates = lotOf(w, 0, 1, 2);
        wheels = lotOf(w, 1, 1, 0, 2);
        stones = lotOf(w, 2, 0, 2);
        w.fit(0, 0, 1);
        CHECK.same("two without the first", w.make(plates, wheels, stones), 2);
        watchIs(w, 0, 0, 3, 5);
        watchIs(w, 1, 1, 4, 6);

        WatchValley x = new WatchValley();
        // one PLATE for WHEELS 0, 1 and one for 2, 3; one STONE for 0, 2: so two can be
        // {0, 3}, {1, 2}, {1, 3}, and 0 is in the first alone
        plates = lotOf(x, 0, 10, 21);
        wheels = lotOf(x, 1, 10, 0, 11, 21);
        stones = lotOf(x, 2, 10, 0, 21);
        x.fit(0, 0, 10);
        x.fit(1, 0, 1);
        CHECK.same("two", x.make(plates, wheels, stones), 2);
        watchIs(x, 0, 0, 2, 6);
        watchIs(x, 1, 1, 5, 8);
    }

    private static void promise18MakeMates() {
        WatchValley v = new WatchValley();
        // WHEEL 0 fits PLATES 1, 2 and WHEEL 1 PLATE 1 alone: WHEEL 0 must leave it
        int plates = lotOf(v, 0, 50, 1, 2, 1);
        int wheels = lotOf(v, 1, 1, 0);
        int stones = lotOf(v, 2, 0, 1, 0);
        v.fit(0, 0, 1);
        v.fit(1, 0, 1);
        CHECK.same("two", v.make(plates, wheels, stones), 2);
        // two PLATES of SIZE 1, so the first may go to WHEEL 0; STONES: 0 and 1 fit WHEEL 0
        watchIs(v, 0, 1, 4, 6);
        watchIs(v, 1, 3, 5, 8);
        WatchValley w = new WatchValley();
        plates = lotOf(w, 0, 50, 1, 2);
        wheels = lotOf(w, 1, 1, 0);
        stones = lotOf(w, 2, 0, 1);
        w.fit(0, 0, 1);
        w.fit(1, 0, 1);
        CHECK.same("two", w.make(plates, wheels, stones), 2);
        watchIs(w, 0, 2, 3, 6);
        watchIs(w, 1, 1, 4, 5);
        WatchValley x = new WatchValley();
        // a WHEEL that is not taken takes no PLATE either
        plates = lotOf(x, 0, 0, 0);
        wheels = lotOf(x, 1, 0, 5, 0);
        stones = lotOf(x, 2, 0, 0);
        x.fit(0, -5, 0);
        CHECK.same("two", x.make(plates, wheels, stones), 2);
        watchIs(x, 0, 0, 2, 5);
        watchIs(x, 1, 1, 4, 6);
    }

    /** The last WHEEL can have its mates only if all others leave those that they have first. */
    private static void promise18MakeLongChain() {
        WatchValley v = new WatchValley();
        int plates = lotOf(v, 0, 1, 2, 3, 4, 5, 6, 7, 8, 9, 0);
        int wheels = lotOf(v, 1, 0, 1, 2, 3, 4, 5, 6, 7, 8, 9);
        int stones = lotOf(v, 2, 1, 2, 3, 4, 5, 6, 7, 8, 9, 0);
        v.fit(0, 0, 1);
        v.fit(1, -1, 0);
        CHECK.same("most", v.most(plates, wheels, stones), 10);
        CHECK.same("make", v.make(plates, wheels, stones), 10);
        for (int w = 0; w < 10; w++) {
            watchIs(v, w, (w + 9) % 10, 10 + w, 20 + (w + 9) % 10);
        }
    }

    private static void promise18MakeRest() {
        WatchValley v = new WatchValley();
        v.home(10, 0, 0, 0);
        int plates = lotOf(v, 0, 9, 0, 9, 0, 9);
        int wheels = lotOf(v, 1, 0, 9, 0);
        int stones = lotOf(v, 2, 0, 0);
        CHECK.same("make", v.make(plates, wheels, stones), 2);
        CHECK.row(v, plates, 0, 2, 4);
        CHECK.row(v, wheels, 6);
        CHECK.row(v, stones);
        CHECK.same("PIECES of PLATES", v.lot(plates, 1), 3);
        for (int p : new int[] {1, 3, 5, 7, 8, 9}) {
            CHECK.same("PIECE " + p + " in a WATCH", v.piece(p, 4), 2);
        }
        CHECK.same("PIECE 3 in WATCH", v.piece(3, 5), 1);
        CHECK.same("PIECE 0 in its LOT", v.piece(0, 5), plates);
        int moreWheels = lotOf(v, 1, 70, 71);
        CHECK.same("WHEELS behind a row whose last is gone", v.join(wheels, moreWheels), 3);
        CHECK.row(v, wheels, 6, 10, 11);
        int more = lotOf(v, 2, 9, 9);
        CHECK.same("STONES behind an emptied row", v.join(stones, more), 2);
        CHECK.same("make more", v.make(plates, wheels, stones), 1);
        watchIs(v, 2, 0, 6, 12);
        CHECK.same("numbered on", v.piece(6, 5), 2);
        CHECK.same("nothing left to make", v.make(plates, wheels, stones), 0);
        v.send(plates, 0);
        CHECK.same("the rest is worked", v.day(false), 2);
        CHECK.row(v, plates, 2, 4);
    }

    private static void promise18MakeHundred() {
        WatchValley v = new WatchValley();
        for (int i = 0; i < 30; i++) {
            v.raw(i % 3, 10, 0, 0);
        }
        for (int i = 0; i < 30; i += 3) {
            CHECK.same("ten more", v.make(i, i + 1, i + 2), 10);
        }
        CHECK.same("WATCHES", v.count(5), 100);
        watchIs(v, 99, 279, 289, 299);
    }

    private static void promise19Watch() {
        WatchValley v = new WatchValley();
        for (int i = 0; i < 9; i++) {
            v.home(1, 0, 0, 0);
        }
        v.raw(0, 1, 0, 0);
        v.raw(1, 1, 0, 0);
        v.raw(2, 1, 0, 0);
        for (int i = 0; i < 3; i++) {
            v.send(i, i == 0 ? 8 : i == 1 ? 2 : 0);
        }
        v.day(false);
        v.day(false);
        v.send(0, 2);
        v.day(false);
        v.day(false);
        CHECK.same("make", v.make(0, 1, 2), 1);
        watchIs(v, 0, 0, 1, 2);
        CHECK.same("not BACK", v.watch(0, 3), 0);
        CHECK.same("HOMES", v.watch(0, 4), 1 << 8 | 1 << 2 | 1);
        v.back(0, true);
        CHECK.same("BACK", v.watch(0, 3), 1);
        for (int bad : new int[] {LEAST, -1, 5, GREATEST}) {
            CHECK.refused(v, "watch(0, " + bad + ")", () -> v.watch(0, bad));
        }
        for (int bad : new int[] {LEAST, -1, 1, 100, GREATEST}) {
            CHECK.refused(v, "watch(" + bad + ", 0)", () -> v.watch(bad, 0));
        }
    }

    private static WatchValley valleyWithWatches(int n) {
        WatchValley v = new WatchValley();
        for (int kind = 0; kind < 3; kind++) {
            v.raw(kind, n, 0, 0);
        }
        v.make(0, 1, 2);
        return v;
    }

    private static void promise20Back() {
        WatchValley v = valleyWithWatches(3);
        CHECK.same("back", v.back(1, true), true);
        CHECK.same("BACK", v.count(6), 1);
        CHECK.same("that one", v.watch(1, 3), 1);
        CHECK.same("not another", v.watch(0, 3), 0);
        CHECK.same("back once more", v.back(1, true), true);
        CHECK.same("still one", v.count(6), 1);
        CHECK.same("not back", v.back(1, false), true);
        CHECK.same("none", v.count(6), 0);
        CHECK.same("not back again", v.back(1, false), true);
        v.back(2, true);
        for (int bad : new int[] {LEAST, -1, 3, 100, GREATEST}) {
            CHECK.falsely(v, "back(" + bad + ", true)", () -> ask(v.back(bad, true)));
            CHECK.falsely(v, "back(" + bad + ", false)", () -> ask(v.back(bad, false)));
        }
    }

    /** Ten WATCHES; HOME h (of three) worked the PLATES of the first 2, 4, 6 of them. */
    private static WatchValley valleyWithHomes() {
        WatchValley v = new WatchValley();
        v.raw(0, 10, 0, 0);
        v.raw(1, 10, 0, 0);
        v.raw(2, 10, 0, 0);
        for (int h = 0; h < 3; h++) {
            v.home(20, 0, 0, 0);
            int part = v.split(0, 2 + 2 * h);
            v.send(part, h);
            v.day(false);
            v.day(false);
            v.join(part, 0);
            v.join(0, part);
        }
        v.make(0, 1, 2);
        return v;
    }

    private static void promise21Counts() {
        WatchValley v = valleyWithHomes();
        v.home(1, 0, 0, 0);
        int[] all = {2, 4, 6, 0};
        for (int h = 0; h < 4; h++) {
            CHECK.same("ALL of " + h, v.counts(h, 0), all[h]);
            CHECK.same("BAD of " + h, v.counts(h, 1), 0);
        }
        v.back(1, true);
        v.back(3, true);
        v.back(9, true);
        int[] bad = {1, 2, 2, 0};
        for (int h = 0; h < 4; h++) {
            CHECK.same("ALL of " + h, v.counts(h, 0), all[h]);
            CHECK.same("BAD of " + h, v.counts(h, 1), bad[h]);
        }
        for (int wrong : new int[] {LEAST, -1, 2, GREATEST}) {
            CHECK.refused(v, "counts(0, " + wrong + ")", () -> v.counts(0, wrong));
        }
        for (int wrong : new int[] {LEAST, -1, 4, 9, GREATEST}) {
            CHECK.refused(v, "counts(" + wrong + ", 0)", () -> v.counts(wrong, 0));
            CHECK.refused(v, "counts(" + wrong + ", 1)", () -> v.counts(wrong, 1));
        }
        WatchValley w = new WatchValley();
        w.home(5, 0, 0, 0);
        for (int kind = 0; kind < 3; kind++) {
            w.raw(kind, 1, 0, 0);
            w.send(kind, 0);
        }
        w.day(false);
        w.day(false);
        w.make(0, 1, 2);
        CHECK.same("a WATCH with three such PIECES is one", w.counts(0, 0), 1);
    }

    private static void promise22Suspect() {
        WatchValley v = valleyWithHomes();
        CHECK.same("none BACK", v.suspect(1), NONE);
        v.back(9, true);
        CHECK.same("one BACK that no HOME worked", v.suspect(1), NONE);
        v.back(4, true);
        v.back(5, true);
        // BAD by ALL: 0 / 2, 0 / 4, 2 / 6
        CHECK.same("HOME 2 alone", v.suspect(1), 2);
        CHECK.same("of at least 2", v.suspect(2), 2);
        CHECK.same("of at least 3", v.suspect(3), NONE);
        v.back(2, true);
        v.back(3, true);
        // 0 / 2, 2 / 4, 4 / 6
        CHECK.same("4 / 6", v.suspect(1), 2);
        v.back(4, false);
        v.back(5, false);
        // 0 / 2, 2 / 4, 2 / 6
        CHECK.same("2 / 4", v.suspect(2), 1);
        v.back(0, true);
        v.back(1, true);
        // 2 / 2, 4 / 4, 4 / 6
        CHECK.same("of equal ones the least", v.suspect(1), 0);
        CHECK.same("of at least 3, 4 / 4", v.suspect(3), 1);
        CHECK.same("of at least 100", v.suspect(100), NONE);
        for (int bad : new int[] {LEAST, -1, 0, 101, GREATEST}) {
            CHECK.refused(v, "suspect(" + bad + ")", () -> v.suspect(bad));
        }
        WatchValley full = new WatchValley();
        full.home(20, 0, 0, 0);
        for (int i = 0; i < 30; i++) {
            full.raw(i % 3, 10, 0, 0);
            full.send(i, 0);
        }
        for (int i = 0; i < 17; i++) {
            full.day(false);
        }
        for (int i = 0; i < 30; i += 3) {
            full.make(i, i + 1, i + 2);
        }
        for (int w = 0; w < 99; w++) {
            full.back(w, true);
        }
        CHECK.same("99 are not 100", full.suspect(100), NONE);
        CHECK.same("99 are 99", full.suspect(99), 0);
        full.back(99, true);
        CHECK.same("100 of 100", full.suspect(100), 0);
    }

    /** 1 / 2, 2 / 4 and 3 / 6 are equal. */
    private static void promise22SuspectEqual() {
        WatchValley v = valleyWithHomes();
        v.back(0, true);
        v.back(2, true);
        v.back(5, true);
        CHECK.same("1 / 2, 2 / 4, 3 / 6", v.suspect(1), 0);
        CHECK.same("2 / 4, 3 / 6", v.suspect(2), 1);
        CHECK.same("3 / 6", v.suspect(3), 2);
        CHECK.same("none", v.suspect(4), NONE);
    }

    private static void promise23Recall() {
        WatchValley v = new WatchValley();
        v.raw(0, 4, 0, 0);
        v.raw(1, 2, 0, 0);
        v.raw(1, 2, 0, 0);
        v.raw(2, 5, 0, 0);
        int part = v.split(1, 1);
        v.join(2, part);
        CHECK.same("before", v.recall(0), 0);
        CHECK.same("make", v.make(0, 2, 3), 3);
        CHECK.same("PLATES", v.recall(0), 3);
        CHECK.same("WHEELS that were split off", v.recall(1), 1);
        CHECK.same("WHEELS", v.recall(2), 2);
        CHECK.same("STONES", v.recall(3), 3);
        CHECK.same("a LOT in which none came", v.recall(part), 0);
        v.back(0, true);
        CHECK.same("BACK or not", v.recall(0), 3);
        for (int bad : new int[] {LEAST, -1, 5, 60, GREATEST}) {
            CHECK.refused(v, "recall(" + bad + ")", () -> v.recall(bad));
        }
    }
}
