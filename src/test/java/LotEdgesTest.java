/** The boundary cases of promises 1 to 6: a new object, home, raw, split, join, send. */
public final class LotEdgesTest {
    private static final Check CHECK = new Check();
    private static final Edges NEW = new Edges(CHECK, WatchValley::new);
    private static final Edges SOME = new Edges(CHECK, LotEdgesTest::someLots);
    private static final int NONE = WatchValley.NONE;
    private static final int LEAST = Integer.MIN_VALUE;
    private static final int GREATEST = Integer.MAX_VALUE;

    public static void main(String[] args) {
        promise1();
        promise1NothingIsThere();
        promise2();
        promise2NineHomes();
        promise3();
        promise3Sizes();
        promise3Full();
        promise4();
        promise4Full();
        promise5();
        promise5Full();
        promise6();
        promise6FiveHundred();
        lotsThatAreOut();
        CHECK.end();
    }

    /** Two HOMES; LOTS 0 (three PLATES), 1 (two PLATES), 2 (one WHEEL), 3 (empty, PLATES). */
    private static WatchValley someLots() {
        WatchValley v = new WatchValley();
        v.home(2, 1, 0, 1);
        v.home(1, -1, 3, 0);
        v.raw(0, 3, 0, 1);
        v.raw(0, 2, 10, 1);
        v.raw(1, 1, 20, 0);
        v.split(0, 0);
        return v;
    }

    private static void promise1() {
        NEW.answers("1: DAY 0", v -> v.count(0), 0);
        NEW.answers("1: no HOMES", v -> v.count(1), 0);
        NEW.answers("1: no LOTS", v -> v.count(2), 0);
        NEW.answers("1: no PIECES", v -> v.count(3), 0);
        NEW.answers("1: none BROKEN", v -> v.count(4), 0);
        NEW.answers("1: no WATCHES", v -> v.count(5), 0);
        NEW.answers("1: none BACK", v -> v.count(6), 0);
        NEW.answers("1: none OUT", v -> v.count(7), 0);
        NEW.answers("1: the first HOME is 0", v -> v.home(1, 0, 0, 0), 0);
        NEW.answers("1: the first LOT is 0", v -> v.raw(0, 1, 0, 0), 0);
        NEW.answers("1: a DAY without anything", v -> v.day(false), 0);
        NEW.answers("1: a DAY with SNOW without anything", v -> v.day(true), 0);
    }

    private static void promise1NothingIsThere() {
        NEW.refuses("1: split(0, 0)", v -> v.split(0, 0));
        NEW.refuses("1: join(0, 1)", v -> v.join(0, 1));
        NEW.saysFalse("1: send(0, 0)", v -> Edges.bit(v.send(0, 0)));
        NEW.refuses("1: lot(0, 0)", v -> v.lot(0, 0));
        NEW.refuses("1: at(0, 0)", v -> v.at(0, 0));
        NEW.throwsNoSuch("1: piece(0, 0)", v -> v.piece(0, 0));
        NEW.refuses("1: of(0, 0)", v -> v.of(0, 0));
        NEW.refuses("1: wage(0, 0, 0)", v -> v.wage(0, 0, 0));
        NEW.throwsNoSuch("1: due(0, 0)", v -> v.due(0, 0));
        NEW.refuses("1: fits(0, 0)", v -> v.fits(0, 0));
        NEW.refuses("1: most(0, 0, 0)", v -> v.most(0, 0, 0));
        NEW.refuses("1: make(0, 0, 0)", v -> v.make(0, 0, 0));
        NEW.refuses("1: watch(0, 0)", v -> v.watch(0, 0));
        NEW.saysFalse("1: back(0, true)", v -> Edges.bit(v.back(0, true)));
        NEW.refuses("1: counts(0, 0)", v -> v.counts(0, 0));
        NEW.refuses("1: suspect(1)", v -> v.suspect(1));
        NEW.refuses("1: recall(0)", v -> v.recall(0));
    }

    private static void promise2() {
        NEW.inside("2: RATE", (v, x) -> v.home(x, 0, 0, 0), 0, 1, 20);
        NEW.refusesEach("2: RATE", (v, x) -> v.home(x, 0, 0, 0), -1, 0, 21);
        NEW.inside("2: OFF", (v, x) -> v.home(1, x, 0, 0), 0, -9, 0, 9);
        NEW.refusesEach("2: OFF", (v, x) -> v.home(1, x, 0, 0), -10, 10);
        NEW.inside("2: BREAK", (v, x) -> v.home(1, 0, x, 0), 0, 0, 30);
        NEW.refusesEach("2: BREAK", (v, x) -> v.home(1, 0, x, 0), -1, 31);
        NEW.inside("2: WAY", (v, x) -> v.home(1, 0, 0, x), 0, 0, 9);
        NEW.refusesEach("2: WAY", (v, x) -> v.home(1, 0, 0, x), -1, 10);
        NEW.refuses("2: all wrong at once", v -> v.home(0, 10, 31, 10));
    }

    private static WatchValley withHomes(int n) {
        WatchValley v = new WatchValley();
        for (int i = 0; i < n; i++) {
            v.home(1 + i, i, i, i);
        }
        return v;
    }

    private static void promise2NineHomes() {
        Edges eight = new Edges(CHECK, () -> withHomes(8));
        eight.answers("2: the ninth HOME is 8", v -> v.home(20, -9, 30, 9), 8);
        eight.refuses("2: a wrong ninth HOME", v -> v.home(21, -9, 30, 9));
        Edges nine = new Edges(CHECK, () -> withHomes(9));
        nine.answers("2: nine HOMES", v -> v.count(1), 9);
        nine.refuses("2: a tenth HOME", v -> v.home(1, 0, 0, 0));
        nine.answers("2: HOME 8 of nine", v -> v.of(8, 0), 9);
    }

    private static void promise3() {
        NEW.inside("3: KIND", (v, x) -> v.raw(x, 1, 0, 0), 0, 0, 1, 2);
        NEW.refusesEach("3: KIND", (v, x) -> v.raw(x, 1, 0, 0), -1, 3);
        NEW.inside("3: n", (v, x) -> v.raw(0, x, 0, 0), 0, 1, 30);
        NEW.refusesEach("3: n", (v, x) -> v.raw(0, x, 0, 0), -1, 0, 31);
        NEW.inside("3: one PIECE, f", (v, x) -> v.raw(0, 1, x, 0), 0, -100, 100);
        NEW.refusesEach("3: one PIECE, f", (v, x) -> v.raw(0, 1, x, 0), -101, 101);
        NEW.inside("3: one PIECE, any step", (v, x) -> v.raw(0, 1, 7, x), 0, LEAST, 0, GREATEST);
        NEW.answers("3: a step of 0", v -> v.raw(0, 30, 100, 0), 0);
    }

    private static void promise3Sizes() {
        NEW.answers("3: last SIZE 100", v -> v.raw(0, 30, -16, 4), 0);
        NEW.refuses("3: last SIZE 101", v -> v.raw(0, 30, -15, 4));
        NEW.answers("3: last SIZE -100", v -> v.raw(0, 30, 16, -4), 0);
        NEW.refuses("3: last SIZE -101", v -> v.raw(0, 30, 15, -4));
        NEW.refuses("3: first SIZE -101, the others fine", v -> v.raw(0, 3, -101, 1));
        NEW.refuses("3: first SIZE 101, the others fine", v -> v.raw(0, 3, 101, -1));
        NEW.answers("3: from -100 to 100", v -> v.raw(0, 2, -100, 200), 0);
        NEW.refuses("3: from -100 to 101", v -> v.raw(0, 2, -100, 201));
        NEW.answers("3: from 100 to -100", v -> v.raw(0, 2, 100, -200), 0);
        NEW.refuses("3: from 100 to -101", v -> v.raw(0, 2, 100, -201));
        // in 32 bits: 3 * 1431655765 is -1, 4 * 2^30 is 0, 2 * 2^31 is 0, 100 + 2^31 - 50 is below
        NEW.refuses("3: a step that wraps to -1", v -> v.raw(0, 4, 0, 1431655765));
        NEW.refuses("3: a step that wraps to 0", v -> v.raw(0, 5, 0, 1 << 30));
        NEW.refuses("3: the least step wraps to 0", v -> v.raw(0, 3, 0, LEAST));
        NEW.refusesEach("3: a far step", (v, x) -> v.raw(0, 2, 100, x));
        NEW.refusesEach("3: a far step back", (v, x) -> v.raw(0, 30, -100, x));
    }

    /** LOTS of 30 PIECES each, then one of the rest. */
    private static WatchValley withPieces(int n) {
        WatchValley v = new WatchValley();
        v.home(20, 0, 1, 0);
        for (int left = n; left > 0; left -= 30) {
            v.raw(v.count(2) % 3, Math.min(30, left), 0, 0);
        }
        return v;
    }

    /** LOT 0 of 18 PIECES (17, if LOT 59 has one), the others empty; all fit into one DAY. */
    private static WatchValley withLots(int n) {
        WatchValley v = new WatchValley();
        v.home(20, 0, 0, 0);
        v.raw(1, 18, 0, 0);
        while (v.count(2) < n) {
            v.split(0, v.count(2) == 59 ? 1 : 0);
        }
        return v;
    }

    private static void promise3Full() {
        Edges rest = new Edges(CHECK, () -> withPieces(271));
        rest.answers("3: 271 PIECES and 29 more", v -> v.raw(0, 29, 0, 0), 10);
        rest.refuses("3: 271 PIECES and 30 more", v -> v.raw(0, 30, 0, 0));
        Edges one = new Edges(CHECK, () -> withPieces(299));
        one.answers("3: the 300th PIECE", v -> v.raw(0, 1, 0, 0), 10);
        one.refuses("3: the 300th and one more", v -> v.raw(0, 2, 0, 0));
        Edges none = new Edges(CHECK, () -> withPieces(300));
        none.answers("3: 300 PIECES", v -> v.count(3), 300);
        none.refuses("3: a 301st PIECE", v -> v.raw(0, 1, 0, 0));
        Edges broken = new Edges(CHECK, LotEdgesTest::fullWithBroken);
        broken.answers("3: 20 BROKEN of 300", v -> v.count(4), 20);
        broken.refuses("3: BROKEN ones make no room", v -> v.raw(0, 1, 0, 0));
        Edges watches = new Edges(CHECK, LotEdgesTest::fullWithWatches);
        watches.answers("3: ten WATCHES of 300 PIECES", v -> v.count(5), 10);
        watches.refuses("3: those in a WATCH make no room", v -> v.raw(0, 1, 0, 0));
        Edges last = new Edges(CHECK, () -> withLots(59));
        last.answers("3: the 60th LOT", v -> v.raw(0, 1, 0, 0), 59);
        Edges lots = new Edges(CHECK, () -> withLots(60));
        lots.answers("3: 60 LOTS", v -> v.count(2), 60);
        lots.refuses("3: a 61st LOT", v -> v.raw(0, 1, 0, 0));
    }

    private static WatchValley fullWithBroken() {
        WatchValley v = withPieces(300);
        v.send(0, 0);
        v.day(false);
        return v;
    }

    private static WatchValley fullWithWatches() {
        WatchValley v = withPieces(300);
        v.make(v.split(0, 10), v.split(1, 10), v.split(2, 10));
        return v;
    }

    private static void promise4() {
        SOME.inside("4: first n of three", (v, x) -> v.split(0, x), 4, 0, 1, 3);
        SOME.refusesEach("4: first n of three", (v, x) -> v.split(0, x), -1, 4);
        SOME.answers("4: none of an empty LOT", v -> v.split(3, 0), 4);
        SOME.refusesEach("4: first n of an empty LOT", (v, x) -> v.split(3, x), -1, 1);
        SOME.refusesEach("4: none such", (v, x) -> v.split(x, 0), -1, 4, 60);
        SOME.answers("4: with 0 it keeps all", v -> v.split(0, 0) == 4 ? v.lot(0, 1) : NONE, 3);
        SOME.answers("4: with 0 the new one is empty", v -> v.lot(v.split(0, 0), 1), 0);
        SOME.answers("4: with all it is empty", v -> v.split(0, 3) == 4 ? v.lot(0, 1) : NONE, 0);
        SOME.answers("4: with all the new one has all", v -> v.lot(v.split(0, 3), 1), 3);
        SOME.answers("4: with all the row is as it was", v -> v.at(v.split(0, 3), 2), 2);
        SOME.answers("4: an empty one has a KIND too", v -> v.lot(v.split(2, 0), 0), 1);
        SOME.answers("4: the new one is at HOUSE", v -> v.lot(v.split(0, 1), 2), 0);
    }

    private static void promise4Full() {
        Edges last = new Edges(CHECK, () -> withLots(59));
        last.answers("4: the 60th LOT", v -> v.split(0, 1), 59);
        Edges full = new Edges(CHECK, () -> withLots(60));
        full.refuses("4: a 61st LOT", v -> v.split(0, 1));
        full.refuses("4: a 61st LOT, empty", v -> v.split(0, 0));
        full.refuses("4: a 61st LOT of LOT 59", v -> v.split(59, 0));
        full.refuses("4: LOT 60", v -> v.split(60, 0));
    }

    private static void promise5() {
        SOME.answers("5: behind", v -> v.join(0, 1), 5);
        SOME.answers("5: an empty one behind", v -> v.join(0, 3), 3);
        SOME.answers("5: behind an empty one", v -> v.join(3, 0), 3);
        SOME.answers("5: b is empty then", v -> v.join(3, 0) == 3 ? v.lot(0, 1) : NONE, 0);
        SOME.answers("5: two empty ones", v -> v.join(3, v.split(3, 0)), 0);
        SOME.refusesEach("5: none such b", (v, x) -> v.join(0, x), -1, 4, 60);
        SOME.refusesEach("5: none such a", (v, x) -> v.join(x, 0), -1, 4, 60);
        SOME.refusesEach("5: none such, alike", (v, x) -> v.join(x, x), -1, 4, 60);
        SOME.refuses("5: alike", v -> v.join(0, 0));
        SOME.refuses("5: alike and empty", v -> v.join(3, 3));
        SOME.refuses("5: of two KINDS", v -> v.join(0, 2));
        SOME.refuses("5: of two KINDS, a WHEEL first", v -> v.join(2, 0));
        SOME.refuses("5: of two KINDS, one empty", v -> v.join(2, 3));
        SOME.refuses("5: of two KINDS, the other empty", v -> v.join(3, 2));
    }

    private static WatchValley tenRows() {
        WatchValley v = new WatchValley();
        for (int i = 0; i < 10; i++) {
            v.raw(0, 30, 0, 0);
        }
        for (int i = 1; i < 9; i++) {
            v.join(0, i);
        }
        return v;
    }

    private static void promise5Full() {
        Edges rows = new Edges(CHECK, LotEdgesTest::tenRows);
        rows.answers("5: all 300 PIECES in one LOT", v -> v.join(0, 9), 300);
        rows.answers("5: the 300th stands last", v -> v.join(0, 9) == 300 ? v.at(0, 299) : NONE, 299);
        Edges lots = new Edges(CHECK, () -> withLots(60));
        lots.answers("5: LOT 59 of 60", v -> v.join(0, 59), 18);
        lots.refuses("5: LOT 60 of 60", v -> v.join(0, 60));
        lots.refuses("5: LOT 59 with itself", v -> v.join(59, 59));
    }

    private static void promise6() {
        SOME.answers("6: the first LOT and HOME", v -> Edges.bit(v.send(0, 0)), 1);
        SOME.answers("6: the last LOT and HOME", v -> Edges.bit(v.send(3, 1)), 1);
        SOME.saysFalseEach("6: no such LOT", (v, x) -> Edges.bit(v.send(x, 0)), -1, 4, 60);
        SOME.saysFalseEach("6: no such HOME", (v, x) -> Edges.bit(v.send(0, x)), -1, 2, 9, 32);
        SOME.answers("6: a WAY of 0", v -> v.send(0, 1) ? v.lot(0, 4) : NONE, 0);
        SOME.answers("6: a WAY of 0 is going out too", v -> v.send(0, 1) ? v.lot(0, 2) : NONE, 1);
        SOME.answers("6: a WAY of 1", v -> v.send(0, 0) ? v.lot(0, 4) : NONE, 1);
        Edges nine = new Edges(CHECK, LotEdgesTest::fullHomesAndLots);
        nine.answers("6: HOME 8, LOT 59", v -> Edges.bit(v.send(59, 8)), 1);
        nine.answers("6: a WAY of 9", v -> v.send(0, 8) ? v.lot(0, 4) : NONE, 9);
        nine.saysFalse("6: HOME 9", v -> Edges.bit(v.send(0, 9)));
        nine.saysFalse("6: LOT 60", v -> Edges.bit(v.send(60, 0)));
    }

    private static WatchValley fullHomesAndLots() {
        WatchValley v = withLots(60);
        while (v.count(1) < 9) {
            v.home(1, 0, 0, 1 + v.count(1));
        }
        return v;
    }

    /** So many were sent, all are back; more than 512 calls, for 500 can't be sent in fewer. */
    private static WatchValley sent(int n) {
        WatchValley v = withLots(50);
        for (int i = 0; i < n; i++) {
            CHECK.same("6: sent before", v.send(i % 50, 0), true);
            if (i % 50 == 49 || i == n - 1) {
                v.day(true);
                v.day(true);
            }
        }
        return v;
    }

    private static void promise6FiveHundred() {
        Edges last = new Edges(CHECK, () -> sent(499));
        last.answers("6: none is OUT", v -> v.count(7), 0);
        last.answers("6: the 500th", v -> Edges.bit(v.send(0, 0)), 1);
        last.saysFalse("6: a refused one is not sent", v -> Edges.bit(v.send(60, 0)));
        Edges full = new Edges(CHECK, () -> sent(500));
        full.answers("6: none is OUT behind 500", v -> v.count(7), 0);
        full.saysFalse("6: a 501st", v -> Edges.bit(v.send(0, 0)));
    }

    /** LOT 0 is OUT to HOME 0 (WAY 1, RATE 2, three PIECES), and some DAYS went by. */
    private static WatchValley out(int days) {
        WatchValley v = someLots();
        v.send(0, 0);
        for (int i = 0; i < days; i++) {
            v.day(false);
        }
        return v;
    }

    private static void lotsThatAreOut() {
        String[] stands = {"going out", "WAITING", "going home"};
        for (int days = 0; days < stands.length; days++) {
            int gone = days;
            String stand = " " + stands[days];
            Edges out = new Edges(CHECK, () -> out(gone));
            out.answers("9:" + stand, v -> v.lot(0, 2), days + 1);
            out.refuses("4: split of one" + stand, v -> v.split(0, 1));
            out.refuses("4: split of none of one" + stand, v -> v.split(0, 0));
            out.refuses("5: join to one" + stand, v -> v.join(0, 1));
            out.refuses("5: join of one" + stand, v -> v.join(1, 0));
            out.refuses("5: join of an empty one to one" + stand, v -> v.join(0, 3));
            out.saysFalse("6: send of one" + stand, v -> Edges.bit(v.send(0, 0)));
            out.saysFalse("6: send elsewhere of one" + stand, v -> Edges.bit(v.send(0, 1)));
        }
        Edges back = new Edges(CHECK, () -> out(3));
        back.answers("9: at HOUSE again", v -> v.lot(0, 2), 0);
        back.answers("4: split of one at HOUSE again", v -> v.split(0, 1), 4);
        back.answers("5: join to one at HOUSE again", v -> v.join(0, 1), 5);
        back.answers("5: join of one at HOUSE again", v -> v.join(1, 0), 5);
        back.answers("6: send of one at HOUSE again", v -> Edges.bit(v.send(0, 1)), 1);
    }
}
