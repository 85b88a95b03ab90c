/** The boundary cases of promise 7: the ways, the SNOW, the work, what breaks, DAY 400. */
public final class DayEdgesTest {
    private static final Check CHECK = new Check();
    private static final int NONE = WatchValley.NONE;

    public static void main(String[] args) {
        waysOfNoDays();
        waysOfOneDay();
        waysOfNineDays();
        snowWithNoDaysToGo();
        snowWithOneDayToGo();
        arrivalAndWorkOnOneDay();
        noWayHomeOnTheDayOfWork();
        arrivalLotByLot();
        arrivalBehindThoseThatWait();
        rateIsTheRow();
        rateIsOneMoreThanTheRow();
        rateIsOneLessThanTheRow();
        rateOverManyLots();
        rateOfTwenty();
        breakNever();
        breakEach();
        breakThirty();
        breakOverLotsAndVisits();
        breakOfTheLastOfARow();
        breakSizesAndHomes();
        sizesBeyondHundred();
        emptyLotAlone();
        emptyLotWithAWay();
        emptyLotBehindOneAtWork();
        emptyLotBehindTheLastPiece();
        emptyLotsInARow();
        sentAgainOnTheDayOfReturn();
        lastDay();
        CHECK.end();
    }

    private static void days(WatchValley v, int n, boolean snow) {
        for (int i = 0; i < n; i++) {
            v.day(snow);
        }
    }

    /** One HOME, and LOTS of PLATES of these many PIECES (0: an empty one), all sent there. */
    private static WatchValley sent(int rate, int breaks, int way, int... rows) {
        WatchValley v = new WatchValley();
        v.home(rate, 1, breaks, way);
        for (int n : rows) {
            if (n == 0) {
                v.raw(0, 1, 0, 0);
                int lot = v.count(2) - 1;
                v.split(lot, 1);
            } else {
                v.raw(0, n, 0, 0);
            }
            v.send(n == 0 ? v.count(2) - 2 : v.count(2) - 1, 0);
        }
        return v;
    }

    private static void stands(String name, WatchValley v, int lot, int due) {
        CHECK.same("7: " + name + ": stand of LOT " + lot, v.lot(lot, 2), due);
    }

    private static void waysOfNoDays() {
        WatchValley v = sent(5, 0, 0, 2);
        CHECK.same("7: WAY 0, worked on the first DAY", v.day(false), 2);
        stands("WAY 0, worked", v, 0, 3);
        CHECK.same("7: WAY 0, days to go home", v.lot(0, 4), 0);
        CHECK.same("7: WAY 0, nothing to work", v.day(false), 0);
        stands("WAY 0, the DAY behind", v, 0, 0);
        CHECK.same("7: WAY 0, days to go never below 0", v.lot(0, 4), 0);
    }

    private static void waysOfOneDay() {
        WatchValley v = sent(5, 0, 1, 2);
        CHECK.same("7: WAY 1, worked on the first DAY", v.day(false), 2);
        stands("WAY 1, worked", v, 0, 3);
        CHECK.same("7: WAY 1, days to go home", v.lot(0, 4), 1);
        v.day(false);
        stands("WAY 1, the DAY behind", v, 0, 0);
    }

    private static void waysOfNineDays() {
        WatchValley v = sent(5, 0, 9, 2);
        for (int i = 8; i > 0; i--) {
            CHECK.same("7: WAY 9, nothing to work", v.day(false), 0);
            CHECK.same("7: WAY 9, days to go", v.lot(0, 4), i);
            stands("WAY 9", v, 0, 1);
        }
        CHECK.same("7: WAY 9, worked on the ninth DAY", v.day(false), 2);
        for (int i = 9; i > 0; i--) {
            stands("WAY 9, home", v, 0, 3);
            CHECK.same("7: WAY 9, days to go home", v.lot(0, 4), i);
            v.day(false);
        }
        stands("WAY 9, at last", v, 0, 0);
    }

    private static void snowWithNoDaysToGo() {
        WatchValley v = sent(5, 0, 0, 2);
        CHECK.same("7: SNOW, 0 to go: there, and worked", v.day(true), 2);
        v.day(true);
        stands("SNOW, 0 to go home: there", v, 0, 0);
    }

    private static void snowWithOneDayToGo() {
        WatchValley v = sent(5, 0, 1, 2);
        for (int i = 0; i < 3; i++) {
            CHECK.same("7: SNOW, 1 to go: not there", v.day(true), 0);
            CHECK.same("7: SNOW, still 1 to go", v.lot(0, 4), 1);
        }
        v.day(false);
        days(v, 3, true);
        stands("SNOW, 1 to go home", v, 0, 3);
        CHECK.same("7: SNOW, still 1 to go home", v.lot(0, 4), 1);
        CHECK.same("7: DAYS with SNOW are DAYS", v.count(0), 7);
        v.day(false);
        stands("no SNOW, 1 to go home", v, 0, 0);
    }

    private static void arrivalAndWorkOnOneDay() {
        WatchValley v = sent(1, 0, 2, 2);
        CHECK.same("7: on the way", v.day(false), 0);
        CHECK.same("7: none WAITS yet", v.of(0, 6), 0);
        CHECK.same("7: there and worked on one DAY", v.day(false), 1);
        CHECK.same("7: one WAITS", v.of(0, 6), 1);
        CHECK.same("7: SNOW does not stop the work", v.day(true), 1);
        CHECK.same("7: none WAITS any more", v.of(0, 6), 0);
    }

    private static void noWayHomeOnTheDayOfWork() {
        WatchValley v = sent(1, 0, 3, 1);
        days(v, 3, false);
        CHECK.same("7: WAY days to go on the DAY of the work", v.lot(0, 4), 3);
        stands("on the DAY of the work", v, 0, 3);
    }

    private static void arrivalLotByLot() {
        WatchValley v = new WatchValley();
        v.home(1, 0, 0, 0);
        v.raw(0, 2, 0, 0);
        v.raw(0, 2, 0, 0);
        v.send(1, 0);
        v.send(0, 0);
        v.day(false);
        CHECK.same("7: LOT 0 ahead, though sent later", v.lot(0, 5), 1);
        CHECK.same("7: LOT 1 behind", v.lot(1, 5), 0);
    }

    private static void arrivalBehindThoseThatWait() {
        WatchValley v = new WatchValley();
        v.home(1, 0, 0, 0);
        v.raw(0, 2, 0, 0);
        v.raw(0, 3, 0, 0);
        v.send(1, 0);
        v.day(false);
        v.send(0, 0);
        v.day(false);
        CHECK.same("7: LOT 1 goes on", v.lot(1, 5), 2);
        CHECK.same("7: LOT 0 came later and is behind", v.lot(0, 5), 0);
        CHECK.same("7: both WAIT", v.of(0, 6), 2);
    }

    private static void rateIsTheRow() {
        WatchValley v = sent(3, 0, 0, 3, 1);
        CHECK.same("7: RATE 3, a row of 3", v.day(false), 3);
        stands("RATE 3, a row of 3", v, 0, 3);
        stands("RATE 3, the one behind", v, 1, 2);
        CHECK.same("7: RATE 3, none left for the one behind", v.lot(1, 5), 0);
    }

    private static void rateIsOneMoreThanTheRow() {
        WatchValley v = sent(4, 0, 0, 3, 2);
        CHECK.same("7: RATE 4, a row of 3 and one behind", v.day(false), 4);
        stands("RATE 4, a row of 3", v, 0, 3);
        CHECK.same("7: RATE 4, one of the next row", v.lot(1, 5), 1);
        CHECK.same("7: RATE 4, the last", v.day(false), 1);
    }

    private static void rateIsOneLessThanTheRow() {
        WatchValley v = sent(2, 0, 0, 3);
        CHECK.same("7: RATE 2, a row of 3", v.day(false), 2);
        stands("RATE 2, a row of 3", v, 0, 2);
        CHECK.same("7: RATE 2, the row's last is as it was", v.piece(2, 1), 0);
        CHECK.same("7: RATE 2, from where it was", v.day(false), 1);
        CHECK.same("7: RATE 2, the first is not worked twice", v.piece(0, 1), 1);
        stands("RATE 2, worked", v, 0, 3);
    }

    private static void rateOverManyLots() {
        WatchValley v = sent(5, 0, 0, 1, 1, 1, 1, 1, 1);
        CHECK.same("7: RATE 5 over six rows of one", v.day(false), 5);
        CHECK.same("7: one WAITS", v.of(0, 6), 1);
        stands("the sixth", v, 5, 2);
    }

    private static void rateOfTwenty() {
        WatchValley v = sent(20, 0, 0, 30);
        CHECK.same("7: RATE 20 of 30", v.day(false), 20);
        CHECK.same("7: the other ten", v.day(false), 10);
        WatchValley one = sent(1, 0, 0, 30);
        for (int i = 1; i <= 30; i++) {
            CHECK.same("7: RATE 1 of 30, worked", one.day(true), 1);
            CHECK.same("7: RATE 1 of 30, so far", one.lot(0, 5), i < 30 ? i : 0);
        }
    }

    private static void breakNever() {
        WatchValley v = sent(20, 0, 0, 30, 30);
        days(v, 3, false);
        CHECK.same("7: BREAK 0, worked", v.of(0, 4), 60);
        CHECK.same("7: BREAK 0, none broke", v.of(0, 5), 0);
        CHECK.same("7: BREAK 0, none BROKEN", v.count(4), 0);
    }

    private static void breakEach() {
        WatchValley v = sent(2, 1, 0, 3);
        CHECK.same("7: BREAK 1, worked", v.day(false), 2);
        CHECK.same("7: BREAK 1, each broke", v.count(4), 2);
        CHECK.row(v, 0, 2);
        v.day(false);
        stands("BREAK 1, none left", v, 0, 3);
        CHECK.row(v, 0);
        CHECK.same("7: BREAK 1, worked in all", v.of(0, 4), 3);
        v.day(false);
        stands("an emptied one comes home", v, 0, 0);
    }

    private static void breakThirty() {
        WatchValley v = sent(20, 30, 0, 29, 2);
        days(v, 2, false);
        CHECK.same("7: BREAK 30, the 30th alone", v.count(4), 1);
        CHECK.same("7: BREAK 30, not the 29th", v.piece(28, 4), 0);
        CHECK.same("7: BREAK 30, the 30th", v.piece(29, 4), 1);
        CHECK.same("7: BREAK 30, not the 31st", v.piece(30, 4), 0);
    }

    private static void breakOverLotsAndVisits() {
        WatchValley v = sent(20, 4, 0, 3, 2);
        v.day(false);
        CHECK.same("7: BREAK 4, the fourth is of LOT 1", v.piece(3, 4), 1);
        v.day(false);
        v.send(0, 0);
        v.day(false);
        // the 6th, 7th and 8th that HOME worked
        CHECK.same("7: BREAK 4, the second is not the eighth", v.piece(1, 4), 0);
        CHECK.same("7: BREAK 4, the eighth, on a second visit", v.piece(2, 4), 1);
        WatchValley w = new WatchValley();
        w.home(20, 0, 2, 0);
        w.home(20, 0, 2, 0);
        w.raw(0, 1, 0, 0);
        w.raw(0, 1, 0, 0);
        w.send(0, 0);
        w.send(1, 1);
        w.day(false);
        CHECK.same("7: each HOME counts its own", w.count(4), 0);
    }

    private static void breakOfTheLastOfARow() {
        WatchValley v = sent(20, 3, 0, 3);
        CHECK.same("7: the last of the row breaks", v.day(false), 3);
        stands("the last of the row broke", v, 0, 3);
        CHECK.row(v, 0, 0, 1);
        CHECK.same("7: no PIECE behind it", v.at(0, 2), NONE);
    }

    private static void breakSizesAndHomes() {
        WatchValley v = sent(1, 1, 0, 1);
        v.day(false);
        CHECK.same("7: a BROKEN one has OFF more too", v.piece(0, 1), 1);
        CHECK.same("7: HOME has worked it", v.piece(0, 3), 1);
        CHECK.same("7: it counts as worked", v.of(0, 4), 1);
        CHECK.same("7: where it broke", v.piece(0, 5), 0);
    }

    private static void sizesBeyondHundred() {
        WatchValley v = new WatchValley();
        v.home(20, 9, 0, 0);
        v.home(20, -9, 0, 0);
        v.raw(0, 1, 100, 0);
        v.raw(0, 1, -100, 0);
        v.send(0, 0);
        v.send(1, 1);
        v.day(false);
        CHECK.same("7: SIZE 100 and OFF 9", v.piece(0, 1), 109);
        CHECK.same("7: SIZE -100 and OFF -9", v.piece(1, 1), -109);
    }

    private static void emptyLotAlone() {
        WatchValley v = sent(1, 0, 0, 0);
        CHECK.same("7: an empty one, nothing worked", v.day(true), 0);
        stands("an empty one goes at once", v, 0, 3);
        v.day(true);
        stands("an empty one is home", v, 0, 0);
        CHECK.same("7: an empty one, HOME worked none", v.of(0, 4), 0);
    }

    private static void emptyLotWithAWay() {
        WatchValley v = sent(1, 0, 2, 0);
        v.day(false);
        stands("an empty one is on the way", v, 0, 1);
        v.day(false);
        stands("an empty one goes home on the DAY it comes", v, 0, 3);
        CHECK.same("7: an empty one, days to go home", v.lot(0, 4), 2);
    }

    private static void emptyLotBehindOneAtWork() {
        WatchValley v = sent(1, 0, 0, 2, 0);
        v.day(false);
        stands("an empty one behind one at work", v, 1, 2);
        CHECK.same("7: both WAIT", v.of(0, 6), 2);
        v.day(false);
        // RATE is used up then, but an empty one costs no PIECE
        stands("an empty one when it is its turn", v, 1, 3);
    }

    private static void emptyLotBehindTheLastPiece() {
        WatchValley v = sent(2, 0, 0, 0, 1, 0, 1);
        // LOTS 0 and 3 are empty (1 and 4 have what was split off), 2 and 5 have one each
        CHECK.same("7: empty ones cost no PIECE", v.day(false), 2);
        CHECK.same("7: none WAITS", v.of(0, 6), 0);
    }

    private static void emptyLotsInARow() {
        WatchValley v = sent(1, 0, 0, 0, 0, 0, 1, 1);
        CHECK.same("7: three empty ones ahead", v.day(false), 1);
        CHECK.same("7: one WAITS", v.of(0, 6), 1);
        WatchValley all = new WatchValley();
        all.home(1, 0, 0, 0);
        all.raw(0, 1, 0, 0);
        while (all.count(2) < 60) {
            all.split(0, all.count(2) == 59 ? 1 : 0);
        }
        for (int lot = 0; lot < 60; lot++) {
            all.send(lot, 0);
        }
        CHECK.same("7: 59 empty ones ahead of one PIECE", all.day(false), 1);
        CHECK.same("7: all 60 go home", all.of(0, 6), 0);
    }

    private static void sentAgainOnTheDayOfReturn() {
        WatchValley v = sent(5, 0, 0, 2);
        days(v, 2, false);
        CHECK.same("7: at HOUSE, and sent again", v.send(0, 0), true);
        CHECK.same("7: worked again", v.day(false), 2);
        CHECK.same("7: SIZE is OFF more, twice", v.piece(0, 1), 2);
        CHECK.same("7: HOMES, as before", v.piece(0, 3), 1);
    }

    private static WatchValley onDay(int day) {
        WatchValley v = sent(1, 2, 0, 3, 1);
        days(v, 1, false);
        v.wage(0, 0, 5);
        v.raw(1, 1, 0, 0);
        v.send(2, 0);
        for (int i = 1; i < day; i++) {
            v.day(i % 3 == 0);
        }
        return v;
    }

    private static void lastDay() {
        Edges before = new Edges(CHECK, () -> onDay(399));
        before.answers("7: the 400th DAY", v -> v.day(false), 0);
        before.answers("7: DAY 400", v -> v.day(true) == 0 ? v.count(0) : NONE, 400);
        Edges last = new Edges(CHECK, () -> lateSending());
        last.answers("7: DAY 400 is", v -> v.count(0), 400);
        last.refuses("7: no DAY behind DAY 400", v -> v.day(false));
        last.refuses("7: no DAY with SNOW behind DAY 400", v -> v.day(true));
        last.answers("7: what was sent on DAY 400 stays OUT", v -> v.lot(0, 2), 1);
    }

    /** On DAY 400, with a LOT that would be worked if there were one more. */
    private static WatchValley lateSending() {
        WatchValley v = onDay(400);
        CHECK.same("7: sent on DAY 400", v.send(0, 0), true);
        return v;
    }
}
