/** The boundary cases of promises 13 and 14: wage and due. */
public final class WageEdgesTest {
    private static final Check CHECK = new Check();
    private static final Edges SOME = new Edges(CHECK, WageEdgesTest::onDayFive);

    public static void main(String[] args) {
        promise13();
        promise13Hundred();
        promise14();
        promise14Told();
        promise14InForce();
        promise14Sent();
        promise14Equal();
        promise14None();
        promise14LastDay();
        CHECK.end();
    }

    private static void days(WatchValley v, int n) {
        for (int i = 0; i < n; i++) {
            v.day(false);
        }
    }

    /** DAY 5; three PIECES were sent to HOME 0 on DAY 3, none to HOME 1; no WAGE was told. */
    private static WatchValley onDayFive() {
        WatchValley v = new WatchValley();
        v.home(20, 0, 0, 0);
        v.home(20, 0, 0, 0);
        v.raw(0, 3, 0, 0);
        days(v, 3);
        v.send(0, 0);
        days(v, 2);
        return v;
    }

    private static void promise13() {
        SOME.inside("13: WAGE", (v, x) -> v.wage(0, 0, x), 1, 0, 1000);
        SOME.refusesEach("13: WAGE", (v, x) -> v.wage(0, 0, x), -1, 1001);
        SOME.inside("13: from DAY", (v, x) -> v.wage(0, x, 1), 1, 0, 4, 5, 6, 400);
        SOME.refusesEach("13: from DAY", (v, x) -> v.wage(0, x, 1), -1, 401);
        SOME.inside("13: HOME", (v, x) -> v.wage(x, 0, 1), 1, 0, 1);
        SOME.refusesEach("13: HOME", (v, x) -> v.wage(x, 0, 1), -1, 2, 9, 32);
        SOME.answers("13: in all, of both HOMES", v -> v.wage(0, 0, 1) == 1 ? v.wage(1, 0, 1) : 0, 2);
    }

    private static WatchValley told(int n) {
        WatchValley v = onDayFive();
        for (int i = 1; i <= n; i++) {
            CHECK.same("13: told in all", v.wage(i % 2, 0, i), i);
        }
        return v;
    }

    private static void promise13Hundred() {
        Edges last = new Edges(CHECK, () -> told(99));
        last.answers("13: the 100th", v -> v.wage(0, 0, 1000), 100);
        last.answers("13: the 100th counts", v -> v.wage(0, 0, 1000) == 100 ? v.due(0, 5) : 0, 3000);
        last.refuses("13: a refused one is not told", v -> v.wage(0, 0, 1001));
        Edges full = new Edges(CHECK, () -> told(100));
        full.refuses("13: a 101st", v -> v.wage(0, 0, 1000));
        full.refuses("13: a 101st, of another HOME", v -> v.wage(1, 0, 1000));
        full.answers("13: DUE by the last of 100", v -> v.due(0, 5), 300);
    }

    private static void promise14() {
        SOME.inside("14: as known on DAY", (v, x) -> v.due(0, x), 0, 0, 4, 5);
        SOME.throwsNoSuchEach("14: as known on DAY", (v, x) -> v.due(0, x), -1, 6, 400);
        SOME.inside("14: of HOME", (v, x) -> v.due(x, 0), 0, 0, 1);
        SOME.throwsNoSuchEach("14: of HOME", (v, x) -> v.due(x, 0), -1, 2, 9, 32);
        SOME.throwsNoSuch("14: none such and no such DAY", v -> v.due(2, 6));
        SOME.asksOnly("14: due", v -> v.due(0, 5));
        Edges first = new Edges(CHECK, WageEdgesTest::oneHome);
        first.answers("14: as known on DAY 0, on DAY 0", v -> v.due(0, 0), 0);
        first.throwsNoSuchEach("14: on DAY 0, as known on DAY", (v, x) -> v.due(0, x), -1, 1);
    }

    private static WatchValley oneHome() {
        WatchValley v = new WatchValley();
        v.home(1, 0, 0, 0);
        return v;
    }

    private static void promise14Told() {
        WatchValley v = onDayFive();
        v.wage(0, 0, 10);
        CHECK.same("14: told on DAY 5, as known on 4", v.due(0, 4), 0);
        CHECK.same("14: told on DAY 5, as known on 5", v.due(0, 5), 30);
        v.day(false);
        v.wage(0, 0, 20);
        CHECK.same("14: told on DAY 6, as known on 5", v.due(0, 5), 30);
        CHECK.same("14: told on DAY 6, as known on 6", v.due(0, 6), 60);
    }

    private static void promise14InForce() {
        SOME.answers("14: in force from DAY 2, sent on 3", v -> v.wage(0, 2, 7) == 1 ? v.due(0, 5) : -1, 21);
        SOME.answers("14: in force from DAY 3, sent on 3", v -> v.wage(0, 3, 7) == 1 ? v.due(0, 5) : -1, 21);
        SOME.answers("14: in force from DAY 4, sent on 3", v -> v.wage(0, 4, 7) == 1 ? v.due(0, 5) : -1, 0);
        WatchValley v = onDayFive();
        v.wage(0, 3, 7);
        v.wage(0, 2, 9);
        CHECK.same("14: the greatest DAY, not the last told", v.due(0, 5), 21);
        v.wage(0, 4, 11);
        CHECK.same("14: a greater DAY that is too late", v.due(0, 5), 21);
    }

    private static void promise14Sent() {
        WatchValley v = new WatchValley();
        v.home(20, 0, 0, 0);
        v.raw(0, 3, 0, 0);
        v.wage(0, 0, 10);
        days(v, 3);
        v.send(0, 0);
        CHECK.same("14: sent on DAY 3, as known on 2", v.due(0, 2), 0);
        CHECK.same("14: sent on DAY 3, as known on 3", v.due(0, 3), 30);
        v.raw(0, 1, 0, 0);
        v.send(1, 0);
        CHECK.same("14: another one on one DAY", v.due(0, 3), 40);
        CHECK.same("14: a refused sending is not paid", v.send(1, 0), false);
        CHECK.same("14: as before", v.due(0, 3), 40);
        v.split(v.raw(0, 1, 0, 0), 1);
        v.send(2, 0);
        CHECK.same("14: an empty LOT, 0 PIECES", v.due(0, 3), 40);
    }

    private static void promise14Equal() {
        WatchValley v = onDayFive();
        v.wage(0, 3, 7);
        v.wage(0, 3, 5);
        CHECK.same("14: of equal ones told last, though less", v.due(0, 5), 15);
        v.wage(0, 3, 0);
        CHECK.same("14: a WAGE of 0 told last", v.due(0, 5), 0);
        v.day(false);
        v.wage(0, 3, 9);
        CHECK.same("14: of equal ones up to DAY 5", v.due(0, 5), 0);
        CHECK.same("14: of equal ones up to DAY 6", v.due(0, 6), 27);
    }

    private static void promise14None() {
        WatchValley v = onDayFive();
        CHECK.same("14: without any WAGE", v.due(0, 5), 0);
        v.wage(1, 0, 1000);
        CHECK.same("14: without any of its own", v.due(0, 5), 0);
        CHECK.same("14: to whom none was sent", v.due(1, 5), 0);
    }

    private static void promise14LastDay() {
        WatchValley v = new WatchValley();
        v.home(20, 0, 0, 0);
        v.raw(0, 30, 0, 0);
        days(v, 400);
        v.send(0, 0);
        v.wage(0, 400, 1000);
        CHECK.same("14: sent, told and known on DAY 400", v.due(0, 400), 30000);
        CHECK.same("14: as known on DAY 399", v.due(0, 399), 0);
        CHECK.noSuchElement(v, "14: as known on DAY 401", () -> v.due(0, 401));
    }
}
