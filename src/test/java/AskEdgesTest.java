/** The boundary cases of promises 8 to 12: count, lot, at, piece, of. */
public final class AskEdgesTest {
    private static final Check CHECK = new Check();
    private static final int NONE = WatchValley.NONE;
    private static final Edges SOME = new Edges(CHECK, AskEdgesTest::someOfAll);

    public static void main(String[] args) {
        promise8();
        promise8Counts();
        promise9();
        promise9Stands();
        promise9WorkedSoFar();
        promise10();
        promise11();
        promise11WholeBrokenInWatch();
        promise12();
        promise12Waiting();
        questionsChangeNothing();
        CHECK.end();
    }

    /**
     * HOMES 0 and 1. PIECES 0 .. 2 PLATES (LOT 0), 3 .. 5 WHEELS (LOT 1), 6 .. 7 STONES (LOT 2);
     * LOT 3 is empty. HOME 1 worked LOT 0, and PIECE 1 broke there; PIECES 0, 3, 6 are WATCH 0,
     * which is BACK. LOT 1 is OUT, at HOME 0.
     */
    private static WatchValley someOfAll() {
        WatchValley v = new WatchValley();
        v.home(1, 0, 0, 0);
        v.home(5, 0, 2, 0);
        v.raw(0, 3, 0, 5);
        v.raw(1, 3, 0, 5);
        v.raw(2, 2, 0, 50);
        v.split(0, 0);
        v.send(0, 1);
        v.day(false);
        v.day(false);
        v.make(0, 1, 2);
        v.back(0, true);
        v.send(1, 0);
        v.day(false);
        return v;
    }

    private static void promise8() {
        int[] due = {3, 2, 4, 8, 1, 1, 1, 1};
        for (int what = 0; what < due.length; what++) {
            int asked = what;
            SOME.answers("8: what " + what, v -> v.count(asked), due[what]);
        }
        SOME.refusesEach("8: another what", (v, x) -> v.count(x), -1, 8);
    }

    private static void promise8Counts() {
        SOME.answers("8: no longer BACK", v -> v.back(0, false) ? v.count(6) : NONE, 0);
        SOME.answers("8: BACK twice is one", v -> v.back(0, true) ? v.count(6) : NONE, 1);
        SOME.answers("8: going out is OUT", v -> v.send(0, 0) ? v.count(7) : NONE, 2);
        SOME.answers("8: an empty LOT is OUT too", v -> v.send(3, 0) ? v.count(7) : NONE, 2);
        SOME.answers("8: going home is OUT", v -> v.day(false) == 1 && v.lot(1, 2) == 3 ? v.count(7) : NONE, 1);
        SOME.answers("8: an empty LOT is a LOT", v -> v.split(3, 0) == 4 ? v.count(2) : NONE, 5);
    }

    private static void promise9() {
        SOME.refusesEach("9: another what", (v, x) -> v.lot(0, x), -1, 6);
        for (int what = 0; what <= 5; what++) {
            int asked = what;
            SOME.refusesEach("9: none such, what " + what, (v, x) -> v.lot(x, asked), -1, 4, 60);
        }
        SOME.refuses("9: none such, another what", v -> v.lot(4, 6));
        int[] empty = {0, 0, 0, NONE, 0, 0};
        for (int what = 0; what <= 5; what++) {
            int asked = what;
            SOME.answers("9: an empty LOT, what " + what, v -> v.lot(3, asked), empty[what]);
        }
    }

    /** A LOT of two WHEELS: at HOUSE, OUT to HOME 1 of WAY 2 and RATE 1, on each DAY. */
    private static WatchValley onTheWay(int days) {
        WatchValley v = new WatchValley();
        v.home(1, 0, 0, 0);
        v.home(1, 0, 0, 2);
        v.raw(1, 2, 0, 0);
        if (days >= 0) {
            v.send(0, 1);
        }
        for (int i = 0; i < days; i++) {
            v.day(false);
        }
        return v;
    }

    private static void promise9Stands() {
        int[][] due = {
            {1, 2, 0, NONE, 0, 0}, {1, 2, 1, 1, 2, 0}, {1, 2, 1, 1, 1, 0}, {1, 2, 2, 1, 0, 1},
            {1, 2, 3, 1, 2, 0}, {1, 2, 3, 1, 1, 0}, {1, 2, 0, NONE, 0, 0},
        };
        for (int i = 0; i < due.length; i++) {
            int days = i - 1;
            Edges way = new Edges(CHECK, () -> onTheWay(days));
            for (int what = 0; what <= 5; what++) {
                int asked = what;
                way.answers("9: on DAY " + days + ", what " + what, v -> v.lot(0, asked), due[i][what]);
            }
        }
    }

    /** RATE 2; LOT 0 of five PLATES, LOT 1 of one behind it; each third breaks. */
    private static WatchValley atWork(int days) {
        WatchValley v = new WatchValley();
        v.home(2, 0, 3, 0);
        v.raw(0, 5, 0, 0);
        v.raw(0, 1, 0, 0);
        v.send(0, 0);
        v.send(1, 0);
        for (int i = 0; i < days; i++) {
            v.day(false);
        }
        return v;
    }

    private static void promise9WorkedSoFar() {
        Edges sent = new Edges(CHECK, () -> atWork(0));
        sent.answers("9: going out, none worked", v -> v.lot(0, 5), 0);
        Edges first = new Edges(CHECK, () -> atWork(1));
        first.answers("9: WAITING, two worked", v -> v.lot(0, 5), 2);
        first.answers("9: WAITING behind, none worked", v -> v.lot(1, 5), 0);
        first.answers("9: WAITING behind", v -> v.lot(1, 2), 2);
        Edges second = new Edges(CHECK, () -> atWork(2));
        second.answers("9: one that broke there counts", v -> v.lot(0, 5), 4);
        second.answers("9: but is no PIECE of it", v -> v.lot(0, 1), 4);
        Edges third = new Edges(CHECK, () -> atWork(3));
        third.answers("9: going home, none", v -> v.lot(0, 5), 0);
        third.answers("9: going home, PIECES", v -> v.lot(0, 1), 4);
    }

    private static void promise10() {
        SOME.answers("10: the first", v -> v.at(1, 0), 4);
        SOME.answers("10: the last", v -> v.at(1, 1), 5);
        SOME.refusesEach("10: no such place", (v, x) -> v.at(1, x), -1, 2, 300);
        SOME.refusesEach("10: no place in an empty LOT", (v, x) -> v.at(3, x), -1, 0, 1);
        SOME.refusesEach("10: no such LOT", (v, x) -> v.at(x, 0), -1, 4, 60);
        SOME.answers("10: what broke or is in a WATCH is not there", v -> v.at(0, 0), 2);
        SOME.refuses("10: and leaves no place", v -> v.at(0, 1));
    }

    private static void promise11() {
        SOME.throwsNoSuchEach("11: another what", (v, x) -> v.piece(0, x), -1, 6);
        SOME.throwsNoSuchEach("11: another what of the last", (v, x) -> v.piece(7, x), -1, 6);
        for (int what = 0; what <= 5; what++) {
            int asked = what;
            SOME.throwsNoSuchEach("11: none such, what " + what, (v, x) -> v.piece(x, asked), -1, 8, 300);
        }
        SOME.throwsNoSuch("11: none such, another what", v -> v.piece(8, 6));
    }

    private static void promise11WholeBrokenInWatch() {
        int[][] due = {{0, 0, 0, 2, 2, 0}, {0, 5, 0, 2, 1, 1}, {0, 10, 0, 2, 0, 0}, {2, 50, 2, 0, 0, 2}};
        int[] pieces = {0, 1, 2, 7};
        String[] names = {"in a WATCH", "BROKEN", "WHOLE", "the last"};
        for (int i = 0; i < due.length; i++) {
            int p = pieces[i];
            for (int what = 0; what <= 5; what++) {
                int asked = what;
                SOME.answers("11: " + names[i] + ", what " + what, v -> v.piece(p, asked), due[i][what]);
            }
        }
        SOME.answers("11: its LOT when split off", v -> v.split(2, 1) == 4 ? v.piece(7, 5) : NONE, 4);
        SOME.answers("11: its RAW stays", v -> v.split(2, 1) == 4 ? v.piece(7, 2) : NONE, 2);
        SOME.answers("11: its LOT when joined", v -> v.join(3, 0) == 1 ? v.piece(2, 5) : NONE, 3);
        SOME.answers("11: RAW of a joined one stays", v -> v.join(3, 0) == 1 ? v.piece(2, 2) : NONE, 0);
    }

    private static void promise12() {
        int[] due = {5, 0, 2, 0, 3, 1, 0};
        for (int what = 0; what < due.length; what++) {
            int asked = what;
            SOME.answers("12: what " + what, v -> v.of(1, asked), due[what]);
        }
        SOME.refusesEach("12: another what", (v, x) -> v.of(1, x), -1, 7);
        for (int what = 0; what < due.length; what++) {
            int asked = what;
            SOME.refusesEach("12: none such, what " + what, (v, x) -> v.of(x, asked), -1, 2, 9, 32);
        }
        SOME.refuses("12: none such, another what", v -> v.of(2, 7));
    }

    private static void promise12Waiting() {
        SOME.answers("12: one WAITS", v -> v.of(0, 6), 1);
        SOME.answers("12: going out is not WAITING", v -> v.send(0, 0) ? v.of(0, 6) : NONE, 1);
        SOME.answers("12: an empty one behind WAITS", v -> {
            v.raw(1, 3, 0, 0);
            v.send(4, 0);
            v.send(3, 1);
            v.day(false);
            return 10 * v.of(0, 6) + v.of(1, 6);
        }, 10);
        Edges least = new Edges(CHECK, () -> withHome(1, -9, 0, 0));
        int[] leastDue = {1, -9, 0, 0, 0, 0, 0};
        Edges greatest = new Edges(CHECK, () -> withHome(20, 9, 30, 9));
        int[] greatestDue = {20, 9, 30, 9, 0, 0, 0};
        for (int what = 0; what <= 6; what++) {
            int asked = what;
            least.answers("12: of the least, what " + what, v -> v.of(0, asked), leastDue[what]);
            greatest.answers("12: of the greatest, what " + what, v -> v.of(0, asked), greatestDue[what]);
        }
    }

    private static WatchValley withHome(int rate, int off, int breaks, int way) {
        WatchValley v = new WatchValley();
        v.home(rate, off, breaks, way);
        return v;
    }

    private static void questionsChangeNothing() {
        SOME.asksOnly("8: count", v -> v.count(7));
        SOME.asksOnly("9: lot", v -> v.lot(1, 5));
        SOME.asksOnly("10: at", v -> v.at(1, 1));
        SOME.asksOnly("11: piece", v -> v.piece(0, 5));
        SOME.asksOnly("12: of", v -> v.of(1, 6));
    }
}
