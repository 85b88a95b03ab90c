/** The boundary cases of promises 15 to 23: fit to recall. */
public final class WatchEdgesTest {
    private static final Check CHECK = new Check();
    private static final int NONE = WatchValley.NONE;
    private static final int LEAST = Integer.MIN_VALUE;
    private static final int GREATEST = Integer.MAX_VALUE;
    private static final Edges SIZED = new Edges(CHECK, WatchEdgesTest::sized);
    private static final Edges SOME = new Edges(CHECK, WatchEdgesTest::threeWatches);

    public static void main(String[] args) {
        promise15();
        promise15Kept();
        promise16();
        promise16Bounds();
        promise16Farthest();
        promise17And18Refused();
        promise17And18Out();
        promise17And18Ten();
        promise17And18Empty();
        promise18First();
        promise18AllMove();
        promise18Rows();
        promise19();
        promise20();
        promise21();
        promise22();
        promise22Equal();
        promise22Hundred();
        promise23();
        questionsChangeNothing();
        CHECK.end();
    }

    /** PLATES 0 .. 4, WHEELS 5 .. 9, STONES 10 .. 14, each of SIZES -2 .. 2; LOTS 0, 1, 2. */
    private static WatchValley sized() {
        WatchValley v = new WatchValley();
        v.home(20, 0, 0, 1);
        for (int kind = 0; kind < 3; kind++) {
            v.raw(kind, 5, -2, 1);
        }
        return v;
    }

    private static void promise15() {
        SIZED.inside("15: what", (v, x) -> Edges.bit(v.fit(x, -1, 1)), 1, 0, 1);
        SIZED.saysFalseEach("15: another what", (v, x) -> Edges.bit(v.fit(x, -1, 1)), -1, 2);
        for (int what = 0; what <= 1; what++) {
            int told = what;
            String name = "15: what " + what + ", ";
            SIZED.inside(name + "low is high", (v, x) -> Edges.bit(v.fit(told, x, x)), 1, LEAST, -1, 0, 1, GREATEST);
            SIZED.answers(name + "the widest", v -> Edges.bit(v.fit(told, LEAST, GREATEST)), 1);
            SIZED.saysFalse(name + "low one above high", v -> Edges.bit(v.fit(told, 1, 0)));
            SIZED.saysFalse(name + "low one above high, below 0", v -> Edges.bit(v.fit(told, -4, -5)));
            SIZED.saysFalse(name + "low far above high", v -> Edges.bit(v.fit(told, GREATEST, LEAST)));
            SIZED.saysFalse(name + "the greatest above the one below",
                    v -> Edges.bit(v.fit(told, GREATEST, GREATEST - 1)));
            SIZED.saysFalse(name + "the least below the one above",
                    v -> Edges.bit(v.fit(told, LEAST + 1, LEAST)));
        }
        SIZED.saysFalse("15: another what, low above high", v -> Edges.bit(v.fit(2, 1, 0)));
    }

    private static void promise15Kept() {
        SIZED.answers("15: at first 0, PLATES", v -> v.fits(2, 7), 1);
        SIZED.answers("15: at first not 1, PLATES", v -> v.fits(3, 7), 0);
        SIZED.answers("15: at first not -1, PLATES", v -> v.fits(1, 7), 0);
        SIZED.answers("15: at first 0, STONES", v -> v.fits(7, 12), 1);
        SIZED.answers("15: at first not 1, STONES", v -> v.fits(8, 12), 0);
        SIZED.answers("15: at first not -1, STONES", v -> v.fits(6, 12), 0);
        WatchValley v = sized();
        v.fit(0, 1, 1);
        CHECK.same("15: PLATES alone are told anew", v.fits(7, 12), 1);
        v.fit(1, 2, 2);
        CHECK.same("15: STONES alone are told anew", v.fits(3, 7), 1);
        v.fit(0, 2, 1);
        CHECK.same("15: a refused one leaves the numbers told", v.fits(3, 7), 1);
        v.fit(0, 0, 0);
        CHECK.same("15: told once more", v.fits(3, 7), 0);
    }

    private static void promise16() {
        SIZED.refusesEach("16: none such q", (v, x) -> v.fits(0, x), -1, 15, 300);
        SIZED.refusesEach("16: none such p", (v, x) -> v.fits(x, 5), -1, 15, 300);
        SIZED.refusesEach("16: none such q of a WHEEL", (v, x) -> v.fits(5, x), -1, 15, 300);
        SIZED.refusesEach("16: neither is such", (v, x) -> v.fits(x, x), -1, 15, 300);
        SIZED.refuses("16: a WHEEL and a PLATE", v -> v.fits(5, 0));
        SIZED.refuses("16: a STONE and a WHEEL", v -> v.fits(10, 5));
        SIZED.refuses("16: a PLATE and a STONE", v -> v.fits(0, 10));
        SIZED.refuses("16: a STONE and a PLATE", v -> v.fits(10, 0));
        SIZED.refuses("16: two PLATES", v -> v.fits(0, 1));
        SIZED.refuses("16: two WHEELS", v -> v.fits(5, 6));
        SIZED.refuses("16: two STONES", v -> v.fits(10, 11));
        SIZED.refuses("16: a PLATE and itself", v -> v.fits(0, 0));
        SIZED.refuses("16: a WHEEL and itself", v -> v.fits(5, 5));
        SIZED.refuses("16: a STONE and itself", v -> v.fits(14, 14));
    }

    /** The first is a PIECE of SIZE 2, the second of 2 .. -2: it is 0 .. 4 more. */
    private static void promise16Bounds() {
        int[] due = {0, 1, 1, 1, 0};
        for (int more = 0; more <= 4; more++) {
            int less = more;
            SIZED.answers("16: PLATE " + more + " more, of 1 .. 3",
                    v -> v.fit(0, 1, 3) ? v.fits(4, 9 - less) : NONE, due[more]);
            SIZED.answers("16: WHEEL " + more + " more, of 1 .. 3",
                    v -> v.fit(1, 1, 3) ? v.fits(9, 14 - less) : NONE, due[more]);
            SIZED.answers("16: PLATE " + more + " less, of -3 .. -1",
                    v -> v.fit(0, -3, -1) ? v.fits(4 - less, 9) : NONE, due[more]);
            SIZED.answers("16: WHEEL " + more + " less, of -3 .. -1",
                    v -> v.fit(1, -3, -1) ? v.fits(9 - less, 14) : NONE, due[more]);
        }
    }

    private static WatchValley farthest() {
        WatchValley v = new WatchValley();
        v.raw(0, 2, -100, 200);
        v.raw(1, 2, -100, 200);
        v.raw(2, 2, -100, 200);
        return v;
    }

    private static void promise16Farthest() {
        Edges far = new Edges(CHECK, WatchEdgesTest::farthest);
        far.answers("16: 200 more, of 200", v -> v.fit(0, 200, 200) ? v.fits(1, 2) : NONE, 1);
        far.answers("16: 200 more, of 201", v -> v.fit(0, 201, 201) ? v.fits(1, 2) : NONE, 0);
        far.answers("16: 200 less, of -200", v -> v.fit(1, -200, -200) ? v.fits(2, 5) : NONE, 1);
        far.answers("16: 200 less, of -201", v -> v.fit(1, -201, -201) ? v.fits(2, 5) : NONE, 0);
        far.answers("16: the least .. 199", v -> v.fit(0, LEAST, 199) ? v.fits(1, 2) : NONE, 0);
        far.answers("16: the least .. 200", v -> v.fit(0, LEAST, 200) ? v.fits(1, 2) : NONE, 1);
        far.answers("16: -199 .. the greatest", v -> v.fit(1, -199, GREATEST) ? v.fits(2, 5) : NONE, 0);
        far.answers("16: -200 .. the greatest", v -> v.fit(1, -200, GREATEST) ? v.fits(2, 5) : NONE, 1);
        far.answers("16: the greatest alone", v -> v.fit(0, GREATEST, GREATEST) ? v.fits(1, 2) : NONE, 0);
        far.answers("16: the least alone", v -> v.fit(0, LEAST, LEAST) ? v.fits(1, 2) : NONE, 0);
    }

    private static void making(Edges edges, String name, int plates, int wheels, int stones) {
        edges.refuses("17: most, " + name, v -> v.most(plates, wheels, stones));
        edges.refuses("18: make, " + name, v -> v.make(plates, wheels, stones));
    }

    private static void promise17And18Refused() {
        for (int none : new int[] {LEAST, -1, 3, 60, GREATEST}) {
            making(SIZED, "no such PLATES " + none, none, 1, 2);
            making(SIZED, "no such WHEELS " + none, 0, none, 2);
            making(SIZED, "no such STONES " + none, 0, 1, none);
        }
        making(SIZED, "none at all", 3, 3, 3);
        making(SIZED, "WHEELS as PLATES", 1, 1, 2);
        making(SIZED, "STONES as PLATES", 2, 1, 2);
        making(SIZED, "PLATES as WHEELS", 0, 0, 2);
        making(SIZED, "STONES as WHEELS", 0, 2, 2);
        making(SIZED, "PLATES as STONES", 0, 1, 0);
        making(SIZED, "WHEELS as STONES", 0, 1, 1);
        making(SIZED, "the other way round", 2, 1, 0);
    }

    private static WatchValley oneOut(int lot, int days) {
        WatchValley v = sized();
        v.home(2, 0, 0, 1);
        v.send(lot, 1);
        for (int i = 0; i < days; i++) {
            v.day(false);
        }
        return v;
    }

    private static void promise17And18Out() {
        int[] stand = {1, 2, 2, 3};
        for (int lot = 0; lot < 3; lot++) {
            int sent = lot;
            for (int days = 0; days < stand.length; days++) {
                int gone = days;
                Edges out = new Edges(CHECK, () -> oneOut(sent, gone));
                out.answers("9: stand on DAY " + days, v -> v.lot(sent, 2), stand[days]);
                making(out, "LOT " + lot + " OUT, on DAY " + days, 0, 1, 2);
            }
            Edges back = new Edges(CHECK, () -> oneOut(sent, 4));
            back.answers("17: most, LOT " + lot + " at HOUSE again", v -> v.most(0, 1, 2), 5);
            back.answers("18: make, LOT " + lot + " at HOUSE again", v -> v.make(0, 1, 2), 5);
        }
    }

    private static WatchValley rows(int plates, int wheels, int stones) {
        WatchValley v = new WatchValley();
        v.home(1, 0, 0, 0);
        v.raw(0, plates, 0, 0);
        v.raw(1, wheels, 0, 0);
        v.raw(2, stones, 0, 0);
        return v;
    }

    private static void promise17And18Ten() {
        Edges ten = new Edges(CHECK, () -> rows(10, 10, 10));
        ten.answers("17: ten of each", v -> v.most(0, 1, 2), 10);
        ten.answers("18: ten of each", v -> v.make(0, 1, 2), 10);
        making(new Edges(CHECK, () -> rows(11, 10, 10)), "eleven PLATES", 0, 1, 2);
        making(new Edges(CHECK, () -> rows(10, 11, 10)), "eleven WHEELS", 0, 1, 2);
        making(new Edges(CHECK, () -> rows(10, 10, 11)), "eleven STONES", 0, 1, 2);
        making(new Edges(CHECK, () -> rows(30, 30, 30)), "thirty of each", 0, 1, 2);
        Edges one = new Edges(CHECK, () -> rows(1, 1, 1));
        one.answers("17: one of each", v -> v.most(0, 1, 2), 1);
        one.answers("18: one of each", v -> v.make(0, 1, 2), 1);
        Edges few = new Edges(CHECK, () -> rows(10, 1, 10));
        few.answers("17: one WHEEL", v -> v.most(0, 1, 2), 1);
        few.answers("18: the first PLATE", v -> v.make(0, 1, 2) == 1 ? v.watch(0, 0) : NONE, 0);
        few.answers("18: the first STONE", v -> v.make(0, 1, 2) == 1 ? v.watch(0, 2) : NONE, 11);
        Edges many = new Edges(CHECK, () -> rows(1, 10, 1));
        many.answers("17: one PLATE and STONE", v -> v.most(0, 1, 2), 1);
        many.answers("18: the first WHEEL", v -> v.make(0, 1, 2) == 1 ? v.watch(0, 1) : NONE, 1);
    }

    /** LOT 3 is of the KIND told and empty. */
    private static WatchValley oneEmpty(int kind) {
        WatchValley v = sized();
        v.split(kind, 0);
        return v;
    }

    private static void promise17And18Empty() {
        String[] names = {"no PLATES", "no WHEELS", "no STONES"};
        for (int kind = 0; kind < 3; kind++) {
            int a = kind == 0 ? 3 : 0;
            int b = kind == 1 ? 3 : 1;
            int c = kind == 2 ? 3 : 2;
            int empty = kind;
            Edges edges = new Edges(CHECK, () -> oneEmpty(empty));
            edges.answers("17: most, " + names[kind], v -> v.most(a, b, c), 0);
            edges.answers("18: make, " + names[kind], v -> v.make(a, b, c), 0);
            edges.asksOnly("18: make of none, " + names[kind], v -> v.make(a, b, c));
        }
        Edges none = new Edges(CHECK, WatchEdgesTest::threeEmpty);
        none.answers("17: most of three empty ones", v -> v.most(3, 4, 5), 0);
        none.answers("18: make of three empty ones", v -> v.make(3, 4, 5), 0);
        SIZED.answers("17: none FIT", v -> v.fit(0, 50, 60) ? v.most(0, 1, 2) : NONE, 0);
        SIZED.answers("18: none FIT", v -> v.fit(1, 50, 60) ? v.make(0, 1, 2) : NONE, 0);
    }

    private static WatchValley threeEmpty() {
        WatchValley v = sized();
        for (int kind = 0; kind < 3; kind++) {
            v.split(kind, 0);
        }
        return v;
    }

    /** LOTS of these SIZES; LOT 0 PLATES, LOT 1 WHEELS, LOT 2 STONES first, others joined. */
    private static WatchValley of(int[] plates, int[] wheels, int[] stones) {
        WatchValley v = new WatchValley();
        int[][] sizes = {plates, wheels, stones};
        for (int kind = 0; kind < 3; kind++) {
            v.raw(kind, 1, sizes[kind][0], 0);
        }
        for (int kind = 0; kind < 3; kind++) {
            for (int i = 1; i < sizes[kind].length; i++) {
                v.join(kind, v.raw(kind, 1, sizes[kind][i], 0));
            }
        }
        return v;
    }

    /** Of WATCH w the places, in the rows before THE MAKING, by the rows told. */
    private static void made(String name, WatchValley v, int[][] due) {
        int[][] rows = new int[3][10];
        for (int kind = 0; kind < 3; kind++) {
            for (int i = 0; i < v.lot(kind, 1); i++) {
                rows[kind][i] = v.at(kind, i);
            }
        }
        CHECK.same("17: " + name, v.most(0, 1, 2), due.length);
        CHECK.same("18: " + name, v.make(0, 1, 2), due.length);
        for (int w = 0; w < due.length; w++) {
            for (int kind = 0; kind < 3; kind++) {
                CHECK.same("18: " + name + ", WATCH " + w + ", PIECE " + kind,
                        v.watch(w, kind), rows[kind][due[w][kind]]);
            }
        }
    }

    private static void promise18First() {
        made("of equal sets the one with the first WHEEL",
                of(new int[] {0}, new int[] {0, 0, 0}, new int[] {0}), new int[][] {{0, 0, 0}});
        made("a greater set without the first WHEEL",
                of(new int[] {5, 6}, new int[] {0, 5, 6}, new int[] {0, 5, 6}), new int[][] {{0, 1, 1}, {1, 2, 2}});
        // WHEELS 0, 1 share a PLATE, 2, 3 one, 0, 2 a STONE: {0, 3}, {1, 2}, {1, 3} can be
        WatchValley v = of(new int[] {10, 21}, new int[] {10, 0, 11, 21}, new int[] {10, 0, 21});
        v.fit(0, 0, 10);
        v.fit(1, 0, 1);
        made("the set that has the first place", v, new int[][] {{0, 0, 0}, {1, 3, 2}});
        // the first WHEEL could have PLATE 0 or 1, the second PLATE 0 alone
        WatchValley w = of(new int[] {0, 1}, new int[] {1, 0}, new int[] {1, 0});
        w.fit(0, -1, 0);
        made("a PLATE left to the WHEEL behind", w, new int[][] {{1, 0, 0}, {0, 1, 1}});
        WatchValley x = of(new int[] {1, 0}, new int[] {1, 0}, new int[] {0, 1});
        x.fit(1, 0, 1);
        made("a STONE left to the WHEEL behind", x, new int[][] {{0, 0, 1}, {1, 1, 0}});
        WatchValley y = of(new int[] {3, 1, 2}, new int[] {1, 2, 3}, new int[] {2, 3, 1});
        y.fit(0, -9, 9);
        y.fit(1, -9, 9);
        made("each takes the first", y, new int[][] {{0, 0, 0}, {1, 1, 1}, {2, 2, 2}});
    }

    /** The tenth WHEEL can have its mates only if each of the nine ahead leaves its first. */
    private static void promise18AllMove() {
        int[] mates = {0, 1, 2, 3, 4, 5, 6, 7, 8, 9};
        WatchValley v = of(mates, new int[] {0, 1, 2, 3, 4, 5, 6, 7, 8, -1}, mates);
        v.fit(0, 0, 1);
        v.fit(1, -1, 0);
        int[][] due = new int[10][];
        for (int i = 0; i < 9; i++) {
            due[i] = new int[] {i + 1, i, i + 1};
        }
        due[9] = new int[] {0, 9, 0};
        made("all ten WHEELS", v, due);
    }

    private static void promise18Rows() {
        WatchValley v = of(new int[] {7, 0, 8}, new int[] {9, 0}, new int[] {0});
        CHECK.same("18: one", v.make(0, 1, 2), 1);
        CHECK.row(v, 0, 0, 4);
        CHECK.row(v, 1, 1);
        CHECK.row(v, 2);
        CHECK.same("18: in no LOT, the first in WATCH 0", v.piece(3, 5), 0);
        CHECK.same("18: in a WATCH", v.piece(3, 4), 2);
        CHECK.same("18: nothing more", v.make(0, 1, 2), 0);
        CHECK.same("18: WATCHES as before", v.count(5), 1);
    }

    /** LOTS of three; HOME 0 worked PLATE 0 (and WHEEL 3), HOME 1 STONES 6, 7; three WATCHES. */
    private static WatchValley threeWatches() {
        WatchValley v = new WatchValley();
        v.home(20, 0, 0, 0);
        v.home(20, 0, 0, 0);
        v.home(20, 0, 0, 0);
        for (int kind = 0; kind < 3; kind++) {
            v.raw(kind, 3, 0, 0);
        }
        v.send(v.split(0, 1), 0);
        v.send(v.split(1, 1), 0);
        v.send(v.split(2, 2), 1);
        v.day(false);
        v.day(false);
        for (int kind = 0; kind < 3; kind++) {
            v.join(3 + kind, kind);
        }
        v.make(3, 4, 5);
        return v;
    }

    private static void promise19() {
        int[][] due = {{0, 3, 6, 0, 3}, {1, 4, 7, 0, 2}, {2, 5, 8, 0, 0}};
        for (int w = 0; w < due.length; w++) {
            int asked = w;
            for (int what = 0; what <= 4; what++) {
                int told = what;
                SOME.answers("19: WATCH " + w + ", what " + what, v -> v.watch(asked, told), due[w][what]);
            }
        }
        SOME.refusesEach("19: another what", (v, x) -> v.watch(0, x), -1, 5);
        for (int what = 0; what <= 4; what++) {
            int told = what;
            SOME.refusesEach("19: none such, what " + what, (v, x) -> v.watch(x, told), -1, 3, 100);
        }
        SOME.refuses("19: none such, another what", v -> v.watch(3, 5));
    }

    private static void promise20() {
        SOME.inside("20: BACK, WATCH", (v, x) -> Edges.bit(v.back(x, true)), 1, 0, 2);
        SOME.inside("20: not BACK that was not, WATCH", (v, x) -> Edges.bit(v.back(x, false)), 1, 0, 2);
        SOME.saysFalseEach("20: none such, BACK", (v, x) -> Edges.bit(v.back(x, true)), -1, 3, 100);
        SOME.saysFalseEach("20: none such, not BACK", (v, x) -> Edges.bit(v.back(x, false)), -1, 3, 100);
        SOME.asksOnly("20: not BACK that was not", v -> Edges.bit(v.back(2, false)));
        WatchValley v = threeWatches();
        v.back(2, true);
        CHECK.same("20: BACK", v.watch(2, 3), 1);
        CHECK.same("20: the others are not", v.watch(0, 3) + v.watch(1, 3), 0);
        CHECK.same("20: BACK once more", v.back(2, true), true);
        CHECK.same("20: one is BACK", v.count(6), 1);
        CHECK.same("20: not BACK any more", v.back(2, false), true);
        CHECK.same("20: none is BACK", v.count(6), 0);
    }

    private static void promise21() {
        SOME.answers("21: a WATCH with two PIECES of a HOME is one", v -> v.counts(0, 0), 1);
        SOME.answers("21: STONES count too", v -> v.counts(1, 0), 2);
        SOME.answers("21: a HOME that worked none", v -> v.counts(2, 0), 0);
        SOME.answers("21: BAD without any BACK", v -> v.counts(1, 1), 0);
        SOME.answers("21: BAD of one that is BACK", v -> v.back(1, true) ? v.counts(1, 1) : NONE, 1);
        SOME.answers("21: ALL has those that are BACK too", v -> v.back(1, true) ? v.counts(1, 0) : NONE, 2);
        SOME.answers("21: BAD of another HOME", v -> v.back(1, true) ? v.counts(0, 1) : NONE, 0);
        SOME.answers("21: BACK, but no HOME worked it", v -> v.back(2, true) ? v.counts(1, 1) : NONE, 0);
        SOME.refusesEach("21: another what", (v, x) -> v.counts(0, x), -1, 2);
        SOME.refusesEach("21: none such, ALL", (v, x) -> v.counts(x, 0), -1, 3, 9, 32);
        SOME.refusesEach("21: none such, BAD", (v, x) -> v.counts(x, 1), -1, 3, 9, 32);
        SOME.refuses("21: none such, another what", v -> v.counts(3, 2));
        WatchValley v = new WatchValley();
        v.home(5, 0, 1, 0);
        v.raw(0, 1, 0, 0);
        v.send(0, 0);
        v.day(false);
        CHECK.same("21: a PIECE that broke is in no WATCH", v.counts(0, 0), 0);
    }

    private static WatchValley allBack() {
        WatchValley v = threeWatches();
        for (int w = 0; w < 3; w++) {
            v.back(w, true);
        }
        return v;
    }

    private static void promise22() {
        SOME.refuses("22: none is BACK", v -> v.suspect(1));
        Edges all = new Edges(CHECK, WatchEdgesTest::allBack);
        all.refusesEach("22: another m", (v, x) -> v.suspect(x), -1, 0, 101);
        all.answers("22: m 1, of equal ones the least", v -> v.suspect(1), 0);
        all.answers("22: m 2, BAD of 2", v -> v.suspect(2), 1);
        all.refuses("22: m 3, BAD of 2 at most", v -> v.suspect(3));
        all.refuses("22: m 100 is fine, but there is none", v -> v.suspect(100));
        SOME.answers("22: 1 of 2, the other 0 of 1", v -> v.back(1, true) ? v.suspect(1) : NONE, 1);
        SOME.answers("22: 1 of 1 is more than 1 of 2", v -> v.back(0, true) ? v.suspect(1) : NONE, 0);
        SOME.answers("22: BACK, but no HOME worked it", v -> v.back(2, true) ? v.suspect(1) : 0, NONE);
    }

    /** Ten WATCHES: HOME 0 worked the PLATES of the first four, HOME 1 of the first two. */
    private static WatchValley halves(int... backs) {
        WatchValley v = rows(10, 10, 10);
        v.home(20, 0, 0, 0);
        v.send(v.split(0, 4), 0);
        for (int i = 0; i < 5; i++) {
            v.day(false);
        }
        v.send(v.split(3, 2), 1);
        v.day(false);
        v.day(false);
        v.join(4, 3);
        v.join(4, 0);
        v.make(4, 1, 2);
        for (int w : backs) {
            v.back(w, true);
        }
        return v;
    }

    private static void promise22Equal() {
        Edges equal = new Edges(CHECK, () -> halves(0, 2));
        equal.answers("22: ALL of 4 and of 2", v -> 10 * v.counts(0, 0) + v.counts(1, 0), 42);
        equal.answers("22: 2 of 4 and 1 of 2 are equal", v -> v.suspect(1), 0);
        Edges less = new Edges(CHECK, () -> halves(0));
        less.answers("22: 1 of 4 is less than 1 of 2", v -> v.suspect(1), 1);
        Edges more = new Edges(CHECK, () -> halves(0, 2, 3));
        more.answers("22: 3 of 4 is more than 1 of 2", v -> v.suspect(1), 0);
        Edges whole = new Edges(CHECK, () -> halves(0, 1, 2));
        whole.answers("22: 3 of 4 is less than 2 of 2", v -> v.suspect(1), 1);
        whole.answers("22: but of at least 3", v -> v.suspect(3), 0);
    }

    private static WatchValley hundredWatches(int back) {
        WatchValley v = new WatchValley();
        v.home(20, 0, 0, 0);
        for (int i = 0; i < 30; i++) {
            v.raw(i % 3, 10, 0, 0);
            if (i % 3 == 0) {
                v.send(i, 0);
            }
        }
        for (int i = 0; i < 6; i++) {
            v.day(true);
        }
        for (int i = 0; i < 30; i += 3) {
            v.make(i, i + 1, i + 2);
        }
        for (int w = 0; w < back; w++) {
            v.back(w, true);
        }
        return v;
    }

    private static void promise22Hundred() {
        Edges most = new Edges(CHECK, () -> hundredWatches(99));
        most.answers("18: 100 WATCHES", v -> v.count(5), 100);
        most.answers("19: WATCH 99", v -> v.watch(99, 0), 279);
        most.refuses("19: WATCH 100", v -> v.watch(100, 0));
        most.saysFalse("20: WATCH 100", v -> Edges.bit(v.back(100, true)));
        most.answers("22: m 99 of 99", v -> v.suspect(99), 0);
        most.refuses("22: m 100 of 99", v -> v.suspect(100));
        Edges all = new Edges(CHECK, () -> hundredWatches(100));
        all.answers("20: 100 are BACK", v -> v.count(6), 100);
        all.answers("21: ALL of 100", v -> v.counts(0, 0), 100);
        all.answers("22: m 100 of 100", v -> v.suspect(100), 0);
        all.refuses("22: m 101 of 100", v -> v.suspect(101));
    }

    private static void promise23() {
        SOME.inside("23: PIECES that came in LOT", (v, x) -> v.recall(x), 3, 0, 1, 2);
        SOME.inside("23: none came in LOT", (v, x) -> v.recall(x), 0, 3, 4, 5);
        SOME.refusesEach("23: no such LOT", (v, x) -> v.recall(x), -1, 6, 60);
        SIZED.inside("23: PIECES that are in no WATCH, LOT", (v, x) -> v.recall(x), 0, 0, 1, 2);
        WatchValley v = rows(2, 1, 5);
        CHECK.same("23: make", v.make(0, 1, 2), 1);
        CHECK.same("23: two came, one is in a WATCH", v.recall(0), 1);
        CHECK.same("23: BACK or not", v.back(0, true) ? v.recall(0) : NONE, 1);
        CHECK.same("23: the last LOT", v.recall(2), 1);
        CHECK.same("23: the one behind", v.recall(3), NONE);
    }

    private static void questionsChangeNothing() {
        SIZED.asksOnly("16: fits", v -> v.fits(0, 5));
        SIZED.asksOnly("17: most", v -> v.most(0, 1, 2));
        SOME.asksOnly("19: watch", v -> v.watch(0, 4));
        SOME.asksOnly("21: counts", v -> v.counts(0, 0));
        SOME.asksOnly("22: suspect", v -> v.suspect(1));
        SOME.asksOnly("23: recall", v -> v.recall(0));
    }
}
