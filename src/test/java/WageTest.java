/** Promises 13 and 14: wages and what is due. */
public final class WageTest {
    private static final Check CHECK = new Check();
    private static final int LEAST = Integer.MIN_VALUE;
    private static final int GREATEST = Integer.MAX_VALUE;

    public static void main(String[] args) {
        promise13Wage();
        promise13WageLimit();
        promise14Due();
        promise14DueByPiecesThen();
        promise14DueGreat();
        CHECK.end();
    }

    private static void promise13Wage() {
        WatchValley v = new WatchValley();
        v.home(1, 0, 0, 0);
        v.home(1, 0, 0, 0);
        v.raw(0, 1, 0, 0);
        v.send(0, 0);
        for (int bad : new int[] {LEAST, -1, 2, 9, GREATEST}) {
            CHECK.refused(v, "wage of HOME " + bad, () -> v.wage(bad, 0, 1));
        }
        for (int bad : new int[] {LEAST, -1, 401, GREATEST}) {
            CHECK.refused(v, "wage from " + bad, () -> v.wage(0, bad, 1));
        }
        for (int bad : new int[] {LEAST, -1, 1001, GREATEST}) {
            CHECK.refused(v, "wage of " + bad, () -> v.wage(0, 0, bad));
        }
        CHECK.same("the first", v.wage(0, 0, 1000), 1);
        CHECK.same("from DAY 400 on", v.wage(1, 400, 0), 2);
        CHECK.same("of one HOME and of others", v.wage(0, 1, 0), 3);
    }

    private static void promise13WageLimit() {
        WatchValley v = new WatchValley();
        v.home(1, 0, 0, 0);
        v.home(1, 0, 0, 0);
        v.raw(0, 1, 0, 0);
        v.send(0, 0);
        for (int i = 1; i <= 100; i++) {
            CHECK.same("wage " + i, v.wage(i % 2, 0, i), i);
        }
        CHECK.refused(v, "a 101st wage", () -> v.wage(0, 0, 5));
        CHECK.refused(v, "a 101st wage of another HOME", () -> v.wage(1, 0, 5));
        CHECK.same("due by the last", v.due(0, 0), 100);
    }

    private static void promise14Due() {
        WatchValley v = new WatchValley();
        v.home(20, 0, 0, 0);
        v.home(20, 0, 0, 0);
        v.raw(0, 3, 0, 0);
        v.raw(0, 5, 0, 0);
        v.wage(0, 2, 10);
        v.send(0, 0);
        v.send(1, 1);
        CHECK.same("no wage in force", v.due(0, 0), 0);
        v.day(false);
        v.wage(0, 0, 4);
        v.day(false);
        v.send(0, 0);
        v.wage(0, 1, 7);
        CHECK.same("as known on 0", v.due(0, 0), 0);
        CHECK.same("as known on 1", v.due(0, 1), 3 * 4);
        CHECK.same("as known on 2", v.due(0, 2), 3 * 4 + 3 * 10);
        v.wage(0, 0, 5);
        CHECK.same("of equal ones told last", v.due(0, 2), 3 * 5 + 3 * 10);
        CHECK.same("but not before it was told", v.due(0, 1), 3 * 4);
        v.wage(0, 2, 1);
        CHECK.same("the greatest DAY, told last", v.due(0, 2), 3 * 5 + 3);
        v.wage(0, 1, 900);
        CHECK.same("a lesser DAY told later does not count", v.due(0, 2), 3 * 5 + 3);
        v.wage(0, 3, 800);
        CHECK.same("nor a DAY behind the sending", v.due(0, 2), 3 * 5 + 3);
        CHECK.same("another HOME without any", v.due(1, 2), 0);
        v.wage(1, 0, 2);
        CHECK.same("another HOME", v.due(1, 2), 5 * 2);
        CHECK.same("another HOME before", v.due(1, 1), 0);
        for (int bad : new int[] {LEAST, -1, 3, 400, GREATEST}) {
            CHECK.noSuchElement(v, "due as known on " + bad, () -> v.due(0, bad));
        }
        for (int bad : new int[] {LEAST, -1, 2, 9, GREATEST}) {
            CHECK.noSuchElement(v, "due of HOME " + bad, () -> v.due(bad, 0));
        }
    }

    private static void promise14DueByPiecesThen() {
        WatchValley v = new WatchValley();
        v.home(20, 0, 1, 0);
        v.raw(0, 6, 0, 0);
        v.split(0, 2);
        v.wage(0, 0, 100);
        v.send(0, 0);
        CHECK.same("PIECES when sent", v.due(0, 0), 400);
        v.day(false);
        CHECK.same("all broke", v.count(4), 4);
        CHECK.same("PIECES when sent, broken since", v.due(0, 1), 400);
        v.day(false);
        v.join(0, 1);
        CHECK.same("PIECES when sent, joined since", v.due(0, 2), 400);
        v.send(0, 0);
        CHECK.same("sent again", v.due(0, 2), 600);
        CHECK.same("not sent yet then", v.due(0, 1), 400);
        v.split(1, 0);
        v.send(2, 0);
        CHECK.same("an empty one costs nothing", v.due(0, 2), 600);
    }

    private static void promise14DueGreat() {
        WatchValley v = new WatchValley();
        v.home(20, 0, 0, 9);
        for (int i = 0; i < 10; i++) {
            v.raw(0, 30, 0, 0);
        }
        for (int i = 1; i < 10; i++) {
            v.join(0, i);
        }
        for (int i = 0; i < 400; i++) {
            v.day(true);
        }
        v.send(0, 0);
        v.wage(0, 400, 1000);
        v.wage(0, 399, 1);
        CHECK.same("from DAY 400 on", v.due(0, 400), 300000);
        CHECK.same("as known on 399", v.due(0, 399), 0);
        CHECK.noSuchElement(v, "as known on 401", () -> v.due(0, 401));
    }
}
