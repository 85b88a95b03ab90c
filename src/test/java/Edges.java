import java.util.NoSuchElementException;
import java.util.function.Consumer;
import java.util.function.Supplier;
import java.util.function.ToLongFunction;

/**
 * Boundary cases, each with a name and a valley of its own. A case that must change nothing is
 * held against a twin valley that never had the call: by all that both tell, and by what both
 * answer to further calls, so that a count inside that no call tells is seen too.
 */
final class Edges {
    private static final int[] FAR = {Integer.MIN_VALUE, Integer.MAX_VALUE};

    /** A call with one argument left open. */
    interface With {
        long ask(WatchValley valley, int x);
    }

    private final Check check;
    private final Supplier<WatchValley> made;

    Edges(Check check, Supplier<WatchValley> made) {
        this.check = check;
        this.made = made;
    }

    static int bit(boolean answer) {
        return answer ? 1 : 0;
    }

    void answers(String name, ToLongFunction<WatchValley> call, long due) {
        check.same(name, call.applyAsLong(made.get()), due);
    }

    /** One case for each of the arguments that are still inside. */
    void inside(String name, With call, long due, int... arguments) {
        for (int x : arguments) {
            answers(name + " " + x, v -> call.ask(v, x), due);
        }
    }

    void refuses(String name, ToLongFunction<WatchValley> call) {
        WatchValley valley = made.get();
        check.same(name, call.applyAsLong(valley), WatchValley.NONE);
        unchanged(name, valley);
    }

    void saysFalse(String name, ToLongFunction<WatchValley> call) {
        WatchValley valley = made.get();
        check.same(name, call.applyAsLong(valley), 0);
        unchanged(name, valley);
    }

    void throwsNoSuch(String name, ToLongFunction<WatchValley> call) {
        WatchValley valley = made.get();
        long thrown = 0;
        try {
            call.applyAsLong(valley);
        } catch (NoSuchElementException due) {
            thrown = 1;
        }
        check.same(name + " throws NoSuchElementException", thrown, 1);
        unchanged(name, valley);
    }

    /** One case for each of the arguments that are just outside, and for the farthest ones. */
    void refusesEach(String name, With call, int... arguments) {
        each(arguments, x -> refuses(name + " " + x, v -> call.ask(v, x)));
    }

    void saysFalseEach(String name, With call, int... arguments) {
        each(arguments, x -> saysFalse(name + " " + x, v -> call.ask(v, x)));
    }

    void throwsNoSuchEach(String name, With call, int... arguments) {
        each(arguments, x -> throwsNoSuch(name + " " + x, v -> call.ask(v, x)));
    }

    private static void each(int[] arguments, Consumer<Integer> one) {
        for (int x : arguments) {
            one.accept(x);
        }
        for (int x : FAR) {
            one.accept(x);
        }
    }

    /** A question: it must change nothing, whatever it answers. */
    void asksOnly(String name, ToLongFunction<WatchValley> call) {
        WatchValley valley = made.get();
        call.applyAsLong(valley);
        unchanged(name, valley);
    }

    private void unchanged(String name, WatchValley valley) {
        WatchValley twin = made.get();
        check.same("the valley behind " + name, Picture.of(valley), Picture.of(twin));
        check.same("what goes on behind " + name, goOn(valley), goOn(twin));
    }

    /** The answers of calls that change much, and the valley behind them. */
    private static String goOn(WatchValley v) {
        StringBuilder text = new StringBuilder();
        text.append(v.home(3, 2, 4, 1));
        for (int kind = 0; kind < 3; kind++) {
            int lot = v.raw(kind, 2, 5, 1);
            text.append(' ').append(lot).append(' ').append(v.split(lot, 1));
            text.append(' ').append(v.join(lot + 1, lot));
            text.append(' ').append(v.send(lot, 0)).append(' ').append(v.wage(0, kind, 7 + kind));
        }
        for (int i = 0; i < 3; i++) {
            text.append(' ').append(v.day(i == 1)).append(' ').append(v.back(i, true));
        }
        for (int lot = 0; lot + 2 < v.count(2); lot++) {
            text.append(' ').append(v.make(lot, lot + 1, lot + 2));
        }
        return text.append('\n').append(Picture.of(v)).toString();
    }
}
