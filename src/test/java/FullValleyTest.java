/** Valleys with as much of all as can be: what is added is refused, what is there is told. */
public final class FullValleyTest {
    private static final Check CHECK = new Check();
    private static final int NONE = WatchValley.NONE;

    public static void main(String[] args) {
        Edges full = new Edges(CHECK, FullValleyTest::full);
        counts(full);
        nothingMore(full);
        theLast(full);
        behindTheLast(full);
        stillWorks(full);
        CHECK.end();
    }

    /**
     * 9 HOMES, 300 PIECES in 60 LOTS, 100 WAGES told, 500 sent, DAY 400. LOTS 0 .. 29 have ten
     * PIECES each, LOTS 30 .. 58 are empty ones of LOT 0, LOT 59 of LOT 2; nothing is OUT. It
     * takes more than 512 calls; each limit alone stands in the test of its promise.
     */
    private static WatchValley full() {
        WatchValley v = new WatchValley();
        for (int i = 0; i < 9; i++) {
            v.home(20, 0, 0, 0);
        }
        for (int i = 0; i < 30; i++) {
            v.raw(i % 3, 10, 0, 0);
        }
        for (int i = 0; i < 30; i++) {
            v.split(i == 29 ? 2 : 0, 0);
        }
        for (int i = 0; i < 500; i++) {
            v.send(30 + i % 30, 8);
            if (i % 30 == 29 || i == 499) {
                v.day(true);
                v.day(true);
            }
        }
        for (int i = 0; i < 100; i++) {
            v.wage(8, i, 1000);
        }
        while (v.count(0) < 400) {
            v.day(false);
        }
        return v;
    }

    private static void counts(Edges full) {
        int[] due = {400, 9, 60, 300, 0, 0, 0, 0};
        for (int what = 0; what < due.length; what++) {
            int asked = what;
            full.answers("full: count " + what, v -> v.count(asked), due[what]);
        }
    }

    private static void nothingMore(Edges full) {
        full.refuses("full: 2, a tenth HOME", v -> v.home(1, 0, 0, 0));
        full.refuses("full: 3, a 61st LOT, a 301st PIECE", v -> v.raw(0, 1, 0, 0));
        full.refuses("full: 4, a 61st LOT", v -> v.split(0, 1));
        full.refuses("full: 4, a 61st LOT, empty", v -> v.split(59, 0));
        full.saysFalse("full: 6, a 501st", v -> Edges.bit(v.send(0, 0)));
        full.saysFalse("full: 6, a 501st of the last", v -> Edges.bit(v.send(59, 8)));
        full.refuses("full: 7, a DAY behind DAY 400", v -> v.day(false));
        full.refuses("full: 13, a 101st WAGE", v -> v.wage(0, 0, 1));
    }

    private static void theLast(Edges full) {
        full.answers("full: 5, LOT 29 and LOT 59", v -> v.join(59, 29), 10);
        full.answers("full: 9, LOT 59", v -> v.lot(59, 0), 2);
        full.answers("full: 10, the last of LOT 29", v -> v.at(29, 9), 299);
        full.answers("full: 11, PIECE 299", v -> v.piece(299, 2), 29);
        full.answers("full: 12, HOME 8", v -> v.of(8, 0), 20);
        full.answers("full: 14, HOME 8 as known on DAY 400", v -> v.due(8, 400), 0);
        full.answers("full: 16, PIECES 289 and 299", v -> v.fits(289, 299), 1);
        full.answers("full: 17, the last LOTS", v -> v.most(27, 28, 29), 10);
        full.answers("full: 17, LOT 59 is empty", v -> v.most(27, 28, 59), 0);
        full.answers("full: 21, HOME 8", v -> v.counts(8, 0), 0);
        full.answers("full: 23, LOT 59", v -> v.recall(59), 0);
    }

    private static void behindTheLast(Edges full) {
        full.refuses("full: 4, LOT 60", v -> v.split(60, 0));
        full.refuses("full: 5, LOT 60", v -> v.join(0, 60));
        full.refuses("full: 5, LOT 60 first", v -> v.join(60, 0));
        full.refuses("full: 9, LOT 60", v -> v.lot(60, 0));
        full.refuses("full: 10, LOT 60", v -> v.at(60, 0));
        full.refuses("full: 10, place 10", v -> v.at(29, 10));
        full.throwsNoSuch("full: 11, PIECE 300", v -> v.piece(300, 0));
        full.refuses("full: 12, HOME 9", v -> v.of(9, 0));
        full.throwsNoSuch("full: 14, HOME 9", v -> v.due(9, 0));
        full.throwsNoSuch("full: 14, DAY 401", v -> v.due(8, 401));
        full.refuses("full: 16, PIECE 300", v -> v.fits(289, 300));
        full.refuses("full: 16, PIECE 300 first", v -> v.fits(300, 289));
        full.refuses("full: 17, LOT 60", v -> v.most(27, 28, 60));
        full.refuses("full: 18, LOT 60", v -> v.make(60, 28, 29));
        full.refuses("full: 19, no WATCH", v -> v.watch(0, 0));
        full.saysFalse("full: 20, no WATCH", v -> Edges.bit(v.back(0, true)));
        full.refuses("full: 21, HOME 9", v -> v.counts(9, 0));
        full.refuses("full: 23, LOT 60", v -> v.recall(60));
    }

    /** What adds no HOME, PIECE, LOT, sending, WAGE or DAY still can be. */
    private static void stillWorks(Edges full) {
        full.answers("full: 18, ten WATCHES", v -> v.make(27, 28, 29), 10);
        full.answers("full: 15, fit", v -> Edges.bit(v.fit(0, 1, 2)), 1);
        full.answers("full: 18 to 23, all 100 WATCHES", v -> {
            for (int lot = 0; lot < 30; lot += 3) {
                CHECK.same("full: 18, make", v.make(lot, lot + 1, lot + 2), 10);
            }
            CHECK.same("full: 19, WATCH 99", v.watch(99, 2), 299);
            CHECK.same("full: 19, WATCH 100", v.watch(100, 2), NONE);
            CHECK.same("full: 20, WATCH 99", v.back(99, true), true);
            CHECK.same("full: 20, WATCH 100", v.back(100, true), false);
            CHECK.same("full: 22, no HOME worked any", v.suspect(1), NONE);
            CHECK.same("full: 23, LOT 29", v.recall(29), 10);
            return v.count(5);
        }, 100);
    }
}
