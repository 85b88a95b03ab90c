import java.util.NoSuchElementException;
import java.util.function.LongSupplier;

/** Counts the answers that are not as due, and prints each. */
final class Check {
    private int wrong;
    private int asked;

    void same(String call, long got, long due) {
        asked++;
        if (got != due) {
            wrong++;
            System.out.println(call + " answered " + got + ", due is " + due);
        }
    }

    void same(String call, boolean got, boolean due) {
        same(call, got ? 1 : 0, due ? 1 : 0);
    }

    void same(String call, String got, String due) {
        asked++;
        if (!got.equals(due)) {
            wrong++;
            System.out.println(call + " answered\n  " + got + "\ndue is\n  " + due);
        }
    }

    /** The call answers NONE and changes nothing that can be asked. */
    void refused(WatchValley valley, String call, LongSupplier answer) {
        String before = Picture.of(valley);
        same(call, answer.getAsLong(), WatchValley.NONE);
        same("the valley behind refused " + call, Picture.of(valley), before);
    }

    /** As refused, for a call that answers false (0). */
    void falsely(WatchValley valley, String call, LongSupplier answer) {
        String before = Picture.of(valley);
        same(call, answer.getAsLong(), 0);
        same("the valley behind refused " + call, Picture.of(valley), before);
    }

    void noSuchElement(WatchValley valley, String call, LongSupplier answer) {
        asked++;
        String before = Picture.of(valley);
        try {
            long got = answer.getAsLong();
            wrong++;
            System.out.println(call + " answered " + got + ", due is NoSuchElementException");
        } catch (NoSuchElementException due) {
            same("the valley behind refused " + call, Picture.of(valley), before);
        }
    }

    void row(WatchValley valley, int lot, int... due) {
        StringBuilder got = new StringBuilder();
        for (int i = 0; i < valley.lot(lot, 1); i++) {
            got.append(valley.at(lot, i)).append(' ');
        }
        StringBuilder want = new StringBuilder();
        for (int p : due) {
            want.append(p).append(' ');
        }
        same("row of lot " + lot, got.toString(), want.toString());
    }

    void end() {
        System.out.println(asked + " answers asked, " + wrong + " not as due");
        if (wrong != 0 || asked == 0) {
            System.exit(1);
        }
    }
}
