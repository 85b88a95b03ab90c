/** Promises 1 to 12: homes, pieces, lots and days. */
public final class ValleyTest {
    private static final Check CHECK = new Check();
    private static final int NONE = WatchValley.NONE;
    private static final int LEAST = Integer.MIN_VALUE;
    private static final int GREATEST = Integer.MAX_VALUE;

    public static void main(String[] args) {
        promise1NewObject();
        promise2Home();
        promise3Raw();
        promise3RawLimits();
        promise4Split();
        promise4SplitLimit();
        promise5Join();
        promise5JoinRowsOfOne();
        promise5JoinRefused();
        promise6Send();
        promise6SendLimit();
        promise7DayTravel();
        promise7DayNoWay();
        promise7DayQueue();
        promise7DayBehind();
        promise7DayQueueAgain();
        promise7DayBreaks();
        promise7DayAllBreak();
        promise7DayEmptyLots();
        promise7DayAllLotsAtOnce();
        promise7DayRowsBehindBroken();
        promise7DaySecondVisit();
        promise7DayHomesInTurn();
        promise7DayLimit();
        promise8Count();
        promise9Lot();
        promise9LotWorkedAndBroken();
        promise10At();
        promise11Piece();
        promise12Of();
        CHECK.end();
    }

    private static void days(WatchValley v, int n) {
        for (int i = 0; i < n; i++) {
            v.day(false);
        }
    }

    private static void promise1NewObject() {
        WatchValley v = new WatchValley();
        for (int what = 0; what <= 7; what++) {
            CHECK.same("new count " + what, v.count(what), 0);
        }
        CHECK.same("new lot(0, 0)", v.lot(0, 0), NONE);
        CHECK.same("new of(0, 0)", v.of(0, 0), NONE);
        CHECK.same("new at(0, 0)", v.at(0, 0), NONE);
        CHECK.same("new watch(0, 0)", v.watch(0, 0), NONE);
        CHECK.noSuchElement(v, "new piece(0, 0)", () -> v.piece(0, 0));
        CHECK.same("new day(false)", v.day(false), 0);
        WatchValley other = new WatchValley();
        v.home(1, 0, 0, 0);
        v.raw(0, 1, 0, 0);
        CHECK.same("another object's HOMES", other.count(1), 0);
        CHECK.same("another object's PIECES", other.count(3), 0);
        CHECK.same("another object's DAY", other.count(0), 0);
    }

    private static void promise2Home() {
        WatchValley v = new WatchValley();
        for (int bad : new int[] {LEAST, -1, 0, 21, GREATEST}) {
            CHECK.refused(v, "home with RATE " + bad, () -> v.home(bad, 0, 0, 0));
        }
        for (int bad : new int[] {LEAST, -10, 10, GREATEST}) {
            CHECK.refused(v, "home with OFF " + bad, () -> v.home(1, bad, 0, 0));
        }
        for (int bad : new int[] {LEAST, -1, 31, GREATEST}) {
            CHECK.refused(v, "home with BREAK " + bad, () -> v.home(1, 0, bad, 0));
        }
        for (int bad : new int[] {LEAST, -1, 10, GREATEST}) {
            CHECK.refused(v, "home with WAY " + bad, () -> v.home(1, 0, 0, bad));
        }
        CHECK.same("home of the least", v.home(1, -9, 0, 0), 0);
        CHECK.same("home of the greatest", v.home(20, 9, 30, 9), 1);
        for (int i = 2; i < 9; i++) {
            CHECK.same("home " + i, v.home(i, i, i, i), i);
        }
        CHECK.refused(v, "a tenth home", () -> v.home(1, 0, 0, 0));
        CHECK.same("HOMES", v.count(1), 9);
        CHECK.same("of(0, 1)", v.of(0, 1), -9);
        CHECK.same("of(1, 0)", v.of(1, 0), 20);
        CHECK.same("of(1, 1)", v.of(1, 1), 9);
        CHECK.same("of(1, 2)", v.of(1, 2), 30);
        CHECK.same("of(1, 3)", v.of(1, 3), 9);
    }

    private static void promise3Raw() {
        WatchValley v = new WatchValley();
        for (int bad : new int[] {LEAST, -1, 3, GREATEST}) {
            CHECK.refused(v, "raw of KIND " + bad, () -> v.raw(bad, 1, 0, 0));
        }
        for (int bad : new int[] {LEAST, -1, 0, 31, GREATEST}) {
            CHECK.refused(v, "raw of n " + bad, () -> v.raw(0, bad, 0, 0));
        }
        for (int bad : new int[] {LEAST, -101, 101, GREATEST}) {
            CHECK.refused(v, "raw of f " + bad, () -> v.raw(0, 1, bad, 0));
            CHECK.refused(v, "raw of f " + bad + " coming back", () -> v.raw(0, 2, bad, bad < 0 ? 50 : -50));
        }
        for (int bad : new int[] {LEAST, -101, 101, GREATEST}) {
            CHECK.refused(v, "raw of step " + bad, () -> v.raw(0, 2, 0, bad));
        }
        CHECK.refused(v, "raw, last SIZE 101", () -> v.raw(0, 30, -15, 4));
        CHECK.refused(v, "raw, last SIZE -101", () -> v.raw(0, 30, 15, -4));
        // 3 * 1431655765 is -1 in int arithmetic
        CHECK.refused(v, "raw, step that wraps", () -> v.raw(0, 4, 0, 1431655765));
        CHECK.refused(v, "raw, step that wraps to 0", () -> v.raw(0, 5, 0, 1 << 30));
        CHECK.same("raw of one, any step", v.raw(2, 1, 100, GREATEST), 0);
        CHECK.same("raw of one, any step down", v.raw(1, 1, -100, LEAST), 1);
        CHECK.same("raw from -100 to 100", v.raw(0, 2, -100, 200), 2);
        CHECK.same("raw from 100 to -100", v.raw(1, 3, 100, -100), 3);
        CHECK.same("raw of 30", v.raw(2, 30, -16, 4), 4);
        CHECK.row(v, 3, 4, 5, 6);
        CHECK.same("KIND", v.lot(3, 0), 1);
        CHECK.same("at HOUSE", v.lot(3, 2), 0);
        int[] due = {100, 0, -100};
        for (int i = 0; i < 3; i++) {
            CHECK.same("SIZE " + i, v.piece(4 + i, 1), due[i]);
            CHECK.same("RAW " + i, v.piece(4 + i, 2), 3);
            CHECK.same("KIND " + i, v.piece(4 + i, 0), 1);
            CHECK.same("HOMES " + i, v.piece(4 + i, 3), 0);
            CHECK.same("WHOLE " + i, v.piece(4 + i, 4), 0);
            CHECK.same("LOT " + i, v.piece(4 + i, 5), 3);
        }
        CHECK.same("last of 30", v.piece(36, 1), 100);
    }

    private static void promise3RawLimits() {
        WatchValley many = new WatchValley();
        for (int i = 0; i < 9; i++) {
            many.raw(i % 3, 30, 0, 0);
        }
        many.raw(0, 29, 0, 0);
        CHECK.refused(many, "raw to 301 PIECES", () -> many.raw(0, 2, 0, 0));
        CHECK.same("raw to 300 PIECES", many.raw(0, 1, 0, 0), 10);
        CHECK.refused(many, "raw beyond 300 PIECES", () -> many.raw(0, 1, 0, 0));
        CHECK.same("PIECES", many.count(3), 300);
        WatchValley lots = new WatchValley();
        for (int i = 0; i < 60; i++) {
            CHECK.same("raw LOT " + i, lots.raw(0, 1, 0, 0), i);
        }
        CHECK.refused(lots, "raw, a 61st LOT", () -> lots.raw(0, 1, 0, 0));
        CHECK.same("LOTS", lots.count(2), 60);
    }

    private static void promise4Split() {
        WatchValley v = new WatchValley();
        v.home(20, 0, 0, 0);
        v.raw(2, 5, 0, 1);
        CHECK.same("split 2", v.split(0, 2), 1);
        CHECK.row(v, 0, 2, 3, 4);
        CHECK.row(v, 1, 0, 1);
        CHECK.same("KIND", v.lot(1, 0), 2);
        CHECK.same("at HOUSE", v.lot(1, 2), 0);
        CHECK.same("LOT of PIECE 1", v.piece(1, 5), 1);
        CHECK.same("RAW of PIECE 1", v.piece(1, 2), 0);
        CHECK.same("LOT of PIECE 2", v.piece(2, 5), 0);
        CHECK.same("split none", v.split(0, 0), 2);
        CHECK.row(v, 2);
        CHECK.row(v, 0, 2, 3, 4);
        CHECK.same("split all", v.split(0, 3), 3);
        CHECK.row(v, 0);
        CHECK.row(v, 3, 2, 3, 4);
        CHECK.same("split none of none", v.split(0, 0), 4);
        for (int bad : new int[] {LEAST, -1, 4, GREATEST}) {
            CHECK.refused(v, "split of n " + bad, () -> v.split(3, bad));
        }
        for (int bad : new int[] {LEAST, -1, 5, 60, GREATEST}) {
            CHECK.refused(v, "split of LOT " + bad, () -> v.split(bad, 0));
        }
        CHECK.same("an emptied LOT takes pieces again", v.join(0, 3), 3);
        CHECK.row(v, 0, 2, 3, 4);
        v.send(0, 0);
        CHECK.refused(v, "split of a LOT that goes out", () -> v.split(0, 1));
        v.day(false);
        CHECK.refused(v, "split of a LOT that goes home", () -> v.split(0, 1));
        v.day(false);
        CHECK.same("split of a LOT that is back", v.split(0, 1), 5);
    }

    private static void promise4SplitLimit() {
        WatchValley v = new WatchValley();
        v.raw(0, 30, 0, 0);
        for (int i = 1; i < 60; i++) {
            CHECK.same("split to LOT " + i, v.split(0, 0), i);
        }
        CHECK.refused(v, "split to a 61st LOT", () -> v.split(0, 1));
    }

    private static void promise5Join() {
        WatchValley v = new WatchValley();
        v.raw(1, 3, 0, 1);
        v.raw(1, 2, 10, 1);
        CHECK.same("join behind", v.join(1, 0), 5);
        CHECK.row(v, 1, 3, 4, 0, 1, 2);
        CHECK.row(v, 0);
        CHECK.same("LOT of PIECE 0", v.piece(0, 5), 1);
        CHECK.same("RAW of PIECE 0", v.piece(0, 2), 0);
        CHECK.same("join an empty one", v.join(1, 0), 5);
        CHECK.same("join to an empty one", v.join(0, 1), 5);
        CHECK.row(v, 0, 3, 4, 0, 1, 2);
        CHECK.row(v, 1);
        v.split(0, 5);
        CHECK.same("join of two empty ones", v.join(0, 1), 0);
        WatchValley big = new WatchValley();
        for (int i = 0; i < 10; i++) {
            big.raw(0, 30, 0, 0);
        }
        for (int i = 1; i < 10; i++) {
            CHECK.same("join of " + i, big.join(0, i), 30 * (i + 1));
        }
        CHECK.same("last of 300", big.at(0, 299), 299);
    }

    private static void promise5JoinRowsOfOne() {
        WatchValley v = new WatchValley();
        v.raw(1, 1, 0, 0);
        v.raw(1, 1, 0, 0);
        v.raw(1, 1, 0, 0);
        CHECK.same("one behind one", v.join(0, 1), 2);
        CHECK.same("one to the emptied", v.join(1, 2), 1);
        CHECK.row(v, 1, 2);
        CHECK.same("two behind one", v.join(1, 0), 3);
        CHECK.row(v, 1, 2, 0, 1);
        CHECK.same("one off", v.split(1, 1), 3);
        CHECK.same("and behind again", v.join(1, 3), 3);
        CHECK.row(v, 1, 0, 1, 2);
    }

    private static void promise5JoinRefused() {
        WatchValley v = new WatchValley();
        v.home(1, 0, 0, 1);
        v.raw(1, 2, 0, 0);
        v.raw(1, 2, 0, 0);
        v.raw(2, 2, 0, 0);
        for (int bad : new int[] {LEAST, -1, 3, 60, GREATEST}) {
            CHECK.refused(v, "join(0, " + bad + ")", () -> v.join(0, bad));
            CHECK.refused(v, "join(" + bad + ", 0)", () -> v.join(bad, 0));
            CHECK.refused(v, "join(" + bad + ", " + bad + ")", () -> v.join(bad, bad));
        }
        CHECK.refused(v, "join of one with itself", () -> v.join(1, 1));
        CHECK.refused(v, "join of two KINDS", () -> v.join(1, 2));
        v.send(0, 0);
        for (int i = 0; i < 3; i++) {
            CHECK.refused(v, "join to one OUT", () -> v.join(0, 1));
            CHECK.refused(v, "join of one OUT", () -> v.join(1, 0));
            v.day(false);
        }
        CHECK.same("join when it is back", v.join(1, 0), 4);
    }

    private static void promise6Send() {
        WatchValley v = new WatchValley();
        v.home(2, 0, 0, 3);
        v.home(2, 0, 0, 0);
        v.raw(0, 3, 0, 0);
        v.raw(1, 1, 0, 0);
        for (int bad : new int[] {LEAST, -1, 2, GREATEST}) {
            CHECK.falsely(v, "send(" + bad + ", 0)", () -> v.send(bad, 0) ? 1 : 0);
            CHECK.falsely(v, "send(0, " + bad + ")", () -> v.send(0, bad) ? 1 : 0);
        }
        CHECK.same("send(0, 0)", v.send(0, 0), true);
        CHECK.same("going out", v.lot(0, 2), 1);
        CHECK.same("to HOME", v.lot(0, 3), 0);
        CHECK.same("days to go", v.lot(0, 4), 3);
        CHECK.same("OUT", v.count(7), 1);
        CHECK.falsely(v, "send of one OUT", () -> v.send(0, 1) ? 1 : 0);
        CHECK.same("send(1, 1)", v.send(1, 1), true);
        CHECK.same("to HOME 1", v.lot(1, 3), 1);
        CHECK.same("no days to go", v.lot(1, 4), 0);
        CHECK.same("still going out", v.lot(1, 2), 1);
        CHECK.same("WAITS only from the DAY on", v.of(1, 6), 0);
        days(v, 3);
        CHECK.same("WAITING", v.lot(0, 2), 2);
        CHECK.falsely(v, "send of one WAITING", () -> v.send(0, 1) ? 1 : 0);
        v.day(false);
        CHECK.same("going home", v.lot(0, 2), 3);
        CHECK.falsely(v, "send of one going home", () -> v.send(0, 1) ? 1 : 0);
        days(v, 3);
        CHECK.same("send of one that is back", v.send(0, 1), true);
    }

    /** The run has more than 512 calls, for 500 can't be sent in fewer. */
    private static void promise6SendLimit() {
        WatchValley v = new WatchValley();
        v.home(20, 0, 0, 0);
        v.raw(0, 1, 0, 0);
        for (int i = 0; i < 49; i++) {
            v.split(0, 0);
        }
        for (int round = 0; round < 10; round++) {
            for (int lot = 0; lot < 50; lot++) {
                CHECK.same("send " + round + " of " + lot, v.send(lot, 0), true);
            }
            days(v, 2);
        }
        CHECK.same("all are back", v.count(7), 0);
        CHECK.falsely(v, "the 501st send", () -> v.send(0, 0) ? 1 : 0);
    }

    private static void promise7DayTravel() {
        WatchValley v = new WatchValley();
        v.home(2, 5, 0, 2);
        v.raw(0, 3, 0, 10);
        v.send(0, 0);
        CHECK.same("day with SNOW", v.day(true), 0);
        CHECK.same("SNOW stops", v.lot(0, 4), 2);
        CHECK.same("DAY", v.count(0), 1);
        CHECK.same("first day of the way", v.day(false), 0);
        CHECK.same("one day less", v.lot(0, 4), 1);
        CHECK.same("going out", v.lot(0, 2), 1);
        CHECK.same("arrives and is worked", v.day(false), 2);
        CHECK.same("WAITING", v.lot(0, 2), 2);
        CHECK.same("WAITING, days to go", v.lot(0, 4), 0);
        CHECK.same("WAITING, HOME", v.lot(0, 3), 0);
        CHECK.same("worked so far", v.lot(0, 5), 2);
        CHECK.same("SIZE of a worked one", v.piece(1, 1), 15);
        CHECK.same("SIZE of one that is not", v.piece(2, 1), 20);
        CHECK.same("HOMES of one that is not", v.piece(2, 3), 0);
        CHECK.same("SNOW does not stop work", v.day(true), 1);
        CHECK.same("going home", v.lot(0, 2), 3);
        CHECK.same("going home, days to go", v.lot(0, 4), 2);
        CHECK.same("going home, HOME", v.lot(0, 3), 0);
        CHECK.same("going home, worked", v.lot(0, 5), 0);
        v.day(true);
        CHECK.same("SNOW stops on the way home", v.lot(0, 4), 2);
        days(v, 1);
        CHECK.same("one day less home", v.lot(0, 4), 1);
        CHECK.same("still OUT", v.lot(0, 2), 3);
        days(v, 1);
        CHECK.same("at HOUSE", v.lot(0, 2), 0);
        CHECK.same("at HOUSE, HOME", v.lot(0, 3), NONE);
        CHECK.same("at HOUSE, days to go", v.lot(0, 4), 0);
        CHECK.row(v, 0, 0, 1, 2);
        CHECK.same("DAY at the end", v.count(0), 7);
    }

    private static void promise7DayNoWay() {
        WatchValley v = new WatchValley();
        v.home(1, -9, 0, 0);
        v.raw(0, 1, -100, 0);
        v.send(0, 0);
        CHECK.same("with a WAY of 0 also with SNOW", v.day(true), 1);
        CHECK.same("SIZE below -100", v.piece(0, 1), -109);
        CHECK.same("goes home", v.lot(0, 2), 3);
        CHECK.same("0 days to go", v.lot(0, 4), 0);
        CHECK.same("no work", v.day(true), 0);
        CHECK.same("home also with SNOW", v.lot(0, 2), 0);
    }

    private static void promise7DayQueue() {
        WatchValley v = new WatchValley();
        v.home(3, 1, 0, 1);
        v.raw(0, 2, 0, 0);
        v.raw(0, 2, 0, 0);
        v.raw(0, 2, 0, 0);
        v.send(2, 0);
        v.day(true);
        v.send(1, 0);
        v.send(0, 0);
        // all three come on one DAY: LOT by LOT, not as sent
        CHECK.same("first work", v.day(false), 3);
        CHECK.same("LOT 0 goes home", v.lot(0, 2), 3);
        CHECK.same("LOT 1 WAITS", v.lot(1, 2), 2);
        CHECK.same("LOT 1 worked", v.lot(1, 5), 1);
        CHECK.same("LOT 2 worked", v.lot(2, 5), 0);
        CHECK.same("LOTS that WAIT", v.of(0, 6), 2);
        CHECK.same("second work", v.day(true), 3);
        CHECK.same("no LOTS WAIT", v.of(0, 6), 0);
        CHECK.same("LOT 0 still goes", v.lot(0, 4), 1);
    }

    private static void promise7DayBehind() {
        WatchValley v = new WatchValley();
        v.home(1, 1, 0, 0);
        v.raw(0, 3, 0, 0);
        v.raw(0, 3, 0, 0);
        v.raw(0, 3, 0, 0);
        v.send(1, 0);
        v.day(false);
        v.send(2, 0);
        v.day(false);
        v.send(0, 0);
        int[] due = {1, 2, 2, 2, 0, 0, 0};
        for (int i = 0; i < due.length; i++) {
            String before = worked(v);
            v.day(true);
            CHECK.same("work " + i + " at LOT", changed(before, worked(v)), due[i]);
        }
    }

    /** A LOT that had others behind it comes again, now as the last, or to another HOME. */
    private static void promise7DayQueueAgain() {
        WatchValley v = new WatchValley();
        v.home(1, 1, 0, 0);
        v.home(1, 1, 0, 0);
        v.raw(0, 1, 0, 0);
        v.raw(0, 5, 0, 0);
        v.raw(0, 1, 0, 0);
        v.send(0, 0);
        v.send(1, 0);
        v.send(2, 0);
        days(v, 2);
        v.send(0, 1);
        v.day(false);
        CHECK.same("LOTS at HOME 0", v.of(0, 6), 2);
        CHECK.same("LOTS at HOME 1", v.of(1, 6), 0);
        CHECK.same("at HOME 1", v.of(1, 4), 1);
        v.day(false);
        CHECK.same("HOME 1 has no more", v.of(1, 4), 1);
        v.send(0, 0);
        days(v, 4);
        CHECK.same("all worked at HOME 0", v.of(0, 4), 8);
        CHECK.same("none WAITS", v.of(0, 6), 0);
        days(v, 1);
        CHECK.same("all are back", v.count(7), 0);
    }

    /** How often the PIECES of each LOT were worked, one sign a LOT of three. */
    private static String worked(WatchValley v) {
        StringBuilder signs = new StringBuilder();
        for (int lot = 0; lot < 3; lot++) {
            int sum = v.piece(3 * lot, 1) + v.piece(3 * lot + 1, 1) + v.piece(3 * lot + 2, 1);
            signs.append((char) ('0' + sum));
        }
        return signs.toString();
    }

    private static int changed(String before, String after) {
        for (int lot = 0; lot < 3; lot++) {
            if (before.charAt(lot) != after.charAt(lot)) {
                return lot;
            }
        }
        return NONE;
    }

    private static void promise7DayBreaks() {
        WatchValley v = new WatchValley();
        v.home(3, 1, 2, 0);
        v.raw(0, 7, 0, 10);
        v.send(0, 0);
        CHECK.same("worked", v.day(false), 3);
        CHECK.row(v, 0, 0, 2, 3, 4, 5, 6);
        CHECK.same("PIECES of it worked, the broken one too", v.lot(0, 5), 3);
        CHECK.same("BROKEN", v.piece(1, 4), 1);
        CHECK.same("where", v.piece(1, 5), 0);
        CHECK.same("SIZE of the BROKEN", v.piece(1, 1), 11);
        CHECK.same("HOMES of the BROKEN", v.piece(1, 3), 1);
        CHECK.same("worked", v.day(false), 3);
        CHECK.row(v, 0, 0, 2, 4, 6);
        CHECK.same("the last", v.day(false), 1);
        CHECK.row(v, 0, 0, 2, 4, 6);
        CHECK.same("goes home", v.lot(0, 2), 3);
        CHECK.same("that broke", v.of(0, 5), 3);
        CHECK.same("worked in all", v.of(0, 4), 7);
        days(v, 1);
        v.send(0, 0);
        // the eighth and the tenth in all break: the count goes on
        CHECK.same("again", v.day(false), 3);
        CHECK.row(v, 0, 2, 6);
        CHECK.same("BROKEN in all", v.count(4), 5);
        CHECK.same("twice worked", v.piece(2, 1), 22);
    }

    private static void promise7DayAllBreak() {
        WatchValley v = new WatchValley();
        v.home(2, 0, 1, 1);
        v.raw(0, 3, 0, 0);
        v.send(0, 0);
        CHECK.same("worked", v.day(false), 2);
        CHECK.row(v, 0, 2);
        CHECK.same("still WAITS", v.lot(0, 2), 2);
        CHECK.same("all worked are broken, and count", v.lot(0, 5), 2);
        CHECK.same("the last one", v.day(false), 1);
        CHECK.row(v, 0);
        CHECK.same("goes home empty", v.lot(0, 2), 3);
        CHECK.same("none worked where it is", v.lot(0, 5), 0);
        v.day(false);
        v.raw(0, 2, 0, 0);
        CHECK.same("and takes others", v.join(0, 1), 2);
        CHECK.row(v, 0, 3, 4);
        CHECK.same("BROKEN", v.count(4), 3);
    }

    private static void promise7DayEmptyLots() {
        WatchValley v = new WatchValley();
        v.home(2, 0, 0, 0);
        v.raw(0, 5, 0, 0);
        v.split(0, 0);
        v.split(0, 2);
        v.split(0, 0);
        v.split(0, 2);
        // rows: 0 one, 1 none, 2 two, 3 none, 4 two; they WAIT as 1, 2, 3, 4
        for (int lot = 1; lot <= 4; lot++) {
            v.send(lot, 0);
        }
        CHECK.same("empty ones cost no PIECE", v.day(false), 2);
        CHECK.same("the empty one ahead goes", v.lot(1, 2), 3);
        CHECK.same("the worked one goes", v.lot(2, 2), 3);
        CHECK.same("the empty one behind it goes at once", v.lot(3, 2), 3);
        CHECK.same("the last WAITS", v.lot(4, 2), 2);
        CHECK.same("LOTS that WAIT", v.of(0, 6), 1);
        WatchValley w = new WatchValley();
        w.home(1, 0, 0, 0);
        w.raw(0, 2, 0, 0);
        w.split(0, 0);
        w.send(0, 0);
        w.send(1, 0);
        w.day(false);
        CHECK.same("an empty one behind one at work WAITS", w.lot(1, 2), 2);
        w.day(false);
        CHECK.same("until it is its turn", w.lot(1, 2), 3);
    }

    /** As many as can be on one DAY at one HOME: 60 LOTS go, 20 PIECES are worked. */
    private static void promise7DayAllLotsAtOnce() {
        WatchValley v = new WatchValley();
        v.home(20, 0, 0, 0);
        v.raw(0, 20, 0, 0);
        while (v.count(2) < 60) {
            v.split(0, v.lot(0, 1) > 1 && v.count(2) > 40 ? 1 : 0);
        }
        for (int lot = 59; lot >= 0; lot--) {
            v.send(lot, 0);
        }
        CHECK.same("PIECES worked", v.day(false), 20);
        CHECK.same("none WAITS", v.of(0, 6), 0);
        v.day(false);
        CHECK.same("all are back", v.count(7), 0);
    }

    /** The last of a row breaks; the row must still take others behind it. */
    private static void promise7DayRowsBehindBroken() {
        WatchValley v = new WatchValley();
        v.home(20, 0, 3, 0);
        v.raw(0, 3, 0, 0);
        v.raw(0, 2, 0, 0);
        v.send(0, 0);
        days(v, 2);
        CHECK.row(v, 0, 0, 1);
        CHECK.same("join", v.join(0, 1), 4);
        CHECK.row(v, 0, 0, 1, 3, 4);
        v.send(0, 0);
        days(v, 2);
        CHECK.row(v, 0, 0, 1, 4);
        CHECK.same("split", v.split(0, 2), 2);
        CHECK.same("join", v.join(0, 2), 3);
        CHECK.row(v, 0, 4, 0, 1);
    }

    private static void promise7DaySecondVisit() {
        WatchValley v = new WatchValley();
        v.home(2, 1, 0, 0);
        v.home(1, 2, 0, 0);
        v.raw(0, 3, 0, 0);
        v.send(0, 0);
        days(v, 3);
        v.send(0, 1);
        CHECK.same("at another HOME from the beginning", v.day(false), 1);
        CHECK.same("worked there", v.lot(0, 5), 1);
        CHECK.same("SIZE", v.piece(0, 1), 3);
        CHECK.same("HOMES", v.piece(0, 3), 3);
        CHECK.same("HOMES of the next", v.piece(1, 3), 1);
    }

    private static void promise7DayHomesInTurn() {
        WatchValley v = new WatchValley();
        v.home(20, 1, 0, 0);
        v.home(20, 2, 0, 0);
        v.raw(0, 30, 0, 0);
        v.raw(0, 4, 0, 0);
        v.send(0, 1);
        v.send(1, 0);
        CHECK.same("PIECES worked at all HOMES", v.day(true), 24);
        CHECK.same("at HOME 0", v.of(0, 4), 4);
        CHECK.same("at HOME 1", v.of(1, 4), 20);
        CHECK.same("the rest", v.day(true), 10);
    }

    private static void promise7DayLimit() {
        WatchValley v = new WatchValley();
        v.home(1, 0, 0, 0);
        v.raw(0, 1, 0, 0);
        for (int i = 0; i < 400; i++) {
            CHECK.same("day " + i, v.day(i % 2 == 0), 0);
        }
        CHECK.same("DAY", v.count(0), 400);
        v.send(0, 0);
        CHECK.refused(v, "a day beyond 400", () -> v.day(false));
        CHECK.refused(v, "a day with SNOW beyond 400", () -> v.day(true));
    }

    private static void promise8Count() {
        WatchValley v = new WatchValley();
        v.home(5, 0, 2, 1);
        v.home(5, 0, 0, 1);
        v.raw(0, 2, 0, 0);
        v.raw(1, 3, 0, 0);
        v.raw(2, 4, 0, 0);
        v.split(2, 2);
        v.send(2, 0);
        v.send(3, 1);
        v.make(0, 1, 2);
        v.day(false);
        v.day(true);
        v.raw(2, 2, 0, 0);
        v.make(0, 1, 4);
        v.back(0, true);
        int[] due = {2, 2, 5, 11, 1, 2, 1, 2};
        for (int what = 0; what < due.length; what++) {
            CHECK.same("count " + what, v.count(what), due[what]);
        }
        for (int bad : new int[] {LEAST, -1, 8, GREATEST}) {
            CHECK.refused(v, "count " + bad, () -> v.count(bad));
        }
    }

    private static void promise9Lot() {
        WatchValley v = new WatchValley();
        v.home(1, 0, 0, 2);
        v.home(1, 0, 0, 4);
        v.raw(2, 2, 0, 0);
        int[][] due = {
            {2, 2, 0, NONE, 0, 0}, {2, 2, 1, 1, 4, 0}, {2, 2, 1, 1, 3, 0}, {2, 2, 1, 1, 2, 0},
            {2, 2, 1, 1, 1, 0}, {2, 2, 2, 1, 0, 1}, {2, 2, 3, 1, 4, 0}, {2, 2, 3, 1, 3, 0},
        };
        for (int i = 0; i < due.length; i++) {
            for (int what = 0; what <= 5; what++) {
                CHECK.same("lot, stand " + i + ", what " + what, v.lot(0, what), due[i][what]);
            }
            for (int bad : new int[] {LEAST, -1, 6, GREATEST}) {
                CHECK.refused(v, "lot, what " + bad, () -> v.lot(0, bad));
            }
            if (i == 0) {
                v.send(0, 1);
            } else {
                v.day(false);
            }
        }
        for (int bad : new int[] {LEAST, -1, 1, 60, GREATEST}) {
            for (int what = 0; what <= 5; what++) {
                CHECK.same("lot " + bad, v.lot(bad, what), NONE);
            }
        }
    }

    private static void promise9LotWorkedAndBroken() {
        WatchValley v = new WatchValley();
        v.home(1, 3, 2, 0);
        v.raw(1, 5, 10, -4);
        v.send(0, 0);
        int[][] due = {{1, 5}, {2, 4}, {3, 4}, {4, 3}};
        for (int[] workedAndLeft : due) {
            v.day(false);
            CHECK.same("worked so far", v.lot(0, 5), workedAndLeft[0]);
            CHECK.same("left in the row", v.lot(0, 1), workedAndLeft[1]);
        }
        v.day(false);
        CHECK.same("going home", v.lot(0, 5), 0);
        v.day(false);
        v.send(0, 0);
        v.day(false);
        CHECK.same("a second visit counts anew", v.lot(0, 5), 1);
        CHECK.same("also when the first one breaks", v.lot(0, 1), 2);
    }

    private static void promise10At() {
        WatchValley v = new WatchValley();
        v.raw(0, 2, 0, 0);
        v.raw(0, 3, 0, 0);
        CHECK.same("at(1, 0)", v.at(1, 0), 2);
        CHECK.same("at(1, 2)", v.at(1, 2), 4);
        for (int bad : new int[] {LEAST, -1, 3, 300, GREATEST}) {
            CHECK.refused(v, "at(1, " + bad + ")", () -> v.at(1, bad));
        }
        for (int bad : new int[] {LEAST, -1, 2, 60, GREATEST}) {
            CHECK.refused(v, "at(" + bad + ", 0)", () -> v.at(bad, 0));
        }
        v.split(0, 2);
        CHECK.same("at of an empty one", v.at(0, 0), NONE);
        CHECK.same("at of the new one", v.at(2, 1), 1);
    }

    private static void promise11Piece() {
        WatchValley v = new WatchValley();
        v.home(3, 4, 3, 0);
        v.home(1, -1, 0, 0);
        v.raw(1, 1, 0, 0);
        v.raw(2, 3, 7, 1);
        v.send(1, 0);
        days(v, 2);
        v.send(1, 1);
        days(v, 2);
        int[][] due = {{1, 0, 0, 0, 0, 0}, {2, 10, 1, 3, 0, 1}, {2, 11, 1, 3, 0, 1}, {2, 13, 1, 1, 1, 0}};
        for (int p = 0; p < due.length; p++) {
            for (int what = 0; what <= 5; what++) {
                CHECK.same("piece(" + p + ", " + what + ")", v.piece(p, what), due[p][what]);
            }
        }
        for (int bad : new int[] {LEAST, -1, 6, GREATEST}) {
            CHECK.noSuchElement(v, "piece(0, " + bad + ")", () -> v.piece(0, bad));
        }
        for (int bad : new int[] {LEAST, -1, 4, 300, GREATEST}) {
            CHECK.noSuchElement(v, "piece(" + bad + ", 0)", () -> v.piece(bad, 0));
        }
    }

    private static void promise12Of() {
        WatchValley v = new WatchValley();
        v.home(7, 0, 0, 0);
        v.home(4, -2, 3, 5);
        v.raw(0, 6, 0, 0);
        v.raw(1, 1, 0, 0);
        v.send(0, 1);
        v.send(1, 1);
        days(v, 5);
        int[] due = {4, -2, 3, 5, 4, 1, 2};
        for (int what = 0; what < due.length; what++) {
            CHECK.same("of(1, " + what + ")", v.of(1, what), due[what]);
        }
        for (int bad : new int[] {LEAST, -1, 7, GREATEST}) {
            CHECK.refused(v, "of(1, " + bad + ")", () -> v.of(1, bad));
        }
        for (int bad : new int[] {LEAST, -1, 2, 9, GREATEST}) {
            CHECK.refused(v, "of(" + bad + ", 0)", () -> v.of(bad, 0));
        }
    }
}
