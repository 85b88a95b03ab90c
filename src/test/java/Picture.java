/** All that a valley tells by calls that change nothing, as one text. */
final class Picture {
    private Picture() {
    }

    static String of(WatchValley v) {
        StringBuilder text = new StringBuilder("counts");
        for (int what = 0; what <= 7; what++) {
            text.append(' ').append(v.count(what));
        }
        lots(v, text);
        pieces(v, text);
        homes(v, text);
        watches(v, text);
        return text.toString();
    }

    private static void lots(WatchValley v, StringBuilder text) {
        for (int lot = 0; lot < v.count(2); lot++) {
            text.append("\n  lot ").append(lot).append(':');
            for (int what = 0; what <= 5; what++) {
                text.append(' ').append(v.lot(lot, what));
            }
            text.append(" row");
            for (int i = 0; i < v.lot(lot, 1); i++) {
                text.append(' ').append(v.at(lot, i));
            }
            text.append(" recall ").append(v.recall(lot));
        }
    }

    private static void pieces(WatchValley v, StringBuilder text) {
        for (int p = 0; p < v.count(3); p++) {
            text.append("\n  piece ").append(p).append(':');
            for (int what = 0; what <= 5; what++) {
                text.append(' ').append(v.piece(p, what));
            }
            text.append(" fits ");
            for (int q = Math.max(0, p - 12); q < Math.min(v.count(3), p + 12); q++) {
                text.append(v.fits(p, q));
            }
        }
    }

    private static void homes(WatchValley v, StringBuilder text) {
        for (int home = 0; home < v.count(1); home++) {
            text.append("\n  home ").append(home).append(':');
            for (int what = 0; what <= 6; what++) {
                text.append(' ').append(v.of(home, what));
            }
            text.append(" counts ").append(v.counts(home, 0)).append(' ').append(v.counts(home, 1));
            text.append(" due");
            for (int known = 0; known <= v.count(0); known++) {
                text.append(' ').append(v.due(home, known));
            }
        }
    }

    private static void watches(WatchValley v, StringBuilder text) {
        for (int w = 0; w < v.count(5); w++) {
            text.append("\n  watch ").append(w).append(':');
            for (int what = 0; what <= 4; what++) {
                text.append(' ').append(v.watch(w, what));
            }
        }
        text.append("\n  suspects");
        for (int m = 1; m <= 100; m++) {
            text.append(' ').append(v.suspect(m));
        }
    }
}
