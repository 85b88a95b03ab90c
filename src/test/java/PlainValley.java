import java.util.ArrayList;
import java.util.HashSet;
import java.util.List;
import java.util.NoSuchElementException;
import java.util.Set;

/**
 * The document once more, written as slowly and plainly as can be: what RandomRunsTest holds
 * the class against. It shares no code and no way of holding the state with it.
 */
final class PlainValley {
    private static final int NONE = -1;

    private static final class P {
        int kind;
        int size;
        int raw;
        Set<Integer> homes = new HashSet<>();
        int brokenAt = NONE;
        int watch = NONE;
    }

    private static final class L {
        int kind;
        List<Integer> row = new ArrayList<>();
        String stand = "house";
        int home = NONE;
        int toGo;
        Set<Integer> workedNow = new HashSet<>();
    }

    private final List<P> pieces = new ArrayList<>();
    private final List<L> lots = new ArrayList<>();
    private final List<int[]> homes = new ArrayList<>();
    private final List<List<L>> queues = new ArrayList<>();
    private final List<int[]> worked = new ArrayList<>();
    private final List<int[]> sendings = new ArrayList<>();
    private final List<int[]> wages = new ArrayList<>();
    private final List<int[]> watches = new ArrayList<>();
    private final Set<Integer> backs = new HashSet<>();
    private final int[][] fit = new int[2][2];
    private int day;

    private static boolean in(long x, long low, long high) {
        return low <= x && x <= high;
    }

    private boolean isLot(int lot) {
        return in(lot, 0, lots.size() - 1);
    }

    private boolean isHome(int home) {
        return in(home, 0, homes.size() - 1);
    }

    private boolean isAtHouse(int lot) {
        return isLot(lot) && lots.get(lot).stand.equals("house");
    }

    int home(int rate, int off, int breaks, int way) {
        boolean fine = in(rate, 1, 20) && in(off, -9, 9) && in(breaks, 0, 30) && in(way, 0, 9);
        if (!fine || homes.size() == 9) {
            return NONE;
        }
        homes.add(new int[] {rate, off, breaks, way});
        queues.add(new ArrayList<>());
        worked.add(new int[1]);
        return homes.size() - 1;
    }

    int raw(int kind, int n, int f, int step) {
        if (!in(kind, 0, 2) || !in(n, 1, 30) || lots.size() == 60 || pieces.size() + n > 300) {
            return NONE;
        }
        for (int i = 0; i < n; i++) {
            if (!in(f + (long) i * step, -100, 100)) {
                return NONE;
            }
        }
        L lot = new L();
        lot.kind = kind;
        for (int i = 0; i < n; i++) {
            P piece = new P();
            piece.kind = kind;
            piece.size = f + i * step;
            piece.raw = lots.size();
            lot.row.add(pieces.size());
            pieces.add(piece);
        }
        lots.add(lot);
        return lots.size() - 1;
    }

    int split(int lot, int n) {
        if (!isAtHouse(lot) || !in(n, 0, lots.get(lot).row.size()) || lots.size() == 60) {
            return NONE;
        }
        L old = lots.get(lot);
        L part = new L();
        part.kind = old.kind;
        part.row = new ArrayList<>(old.row.subList(0, n));
        old.row = new ArrayList<>(old.row.subList(n, old.row.size()));
        lots.add(part);
        return lots.size() - 1;
    }

    int join(int a, int b) {
        if (!isAtHouse(a) || !isAtHouse(b) || a == b || lots.get(a).kind != lots.get(b).kind) {
            return NONE;
        }
        lots.get(a).row.addAll(lots.get(b).row);
        lots.get(b).row = new ArrayList<>();
        return lots.get(a).row.size();
    }

    boolean send(int lot, int home) {
        if (!isAtHouse(lot) || !isHome(home) || sendings.size() == 500) {
            return false;
        }
        L sent = lots.get(lot);
        sent.stand = "out";
        sent.home = home;
        sent.toGo = homes.get(home)[3];
        sendings.add(new int[] {home, day, sent.row.size()});
        return true;
    }

    int day(boolean snow) {
        if (day == 400) {
            return NONE;
        }
        for (L lot : lots) {
            boolean goes = lot.stand.equals("out") || lot.stand.equals("back");
            if (goes && !snow) {
                lot.toGo = Math.max(0, lot.toGo - 1);
            }
            if (goes && lot.toGo == 0) {
                if (lot.stand.equals("out")) {
                    lot.stand = "waits";
                    lot.workedNow = new HashSet<>();
                    queues.get(lot.home).add(lot);
                } else {
                    lot.stand = "house";
                    lot.home = NONE;
                }
            }
        }
        int sum = 0;
        for (int home = 0; home < homes.size(); home++) {
            letGo(home);
            for (int i = 0; i < homes.get(home)[0]; i++) {
                if (!queues.get(home).isEmpty()) {
                    workOne(home);
                    sum++;
                }
                letGo(home);
            }
        }
        day++;
        return sum;
    }

    /** Sends home, from the head of the queue, every LOT of which nothing is left to work. */
    private void letGo(int home) {
        List<L> queue = queues.get(home);
        while (!queue.isEmpty() && queue.get(0).workedNow.containsAll(queue.get(0).row)) {
            L lot = queue.remove(0);
            lot.stand = "back";
            lot.toGo = homes.get(home)[3];
        }
    }

    private void workOne(int home) {
        L lot = queues.get(home).get(0);
        for (int p : lot.row) {
            if (!lot.workedNow.contains(p)) {
                P piece = pieces.get(p);
                piece.size += homes.get(home)[1];
                piece.homes.add(home);
                worked.get(home)[0]++;
                lot.workedNow.add(p);
                int breaks = homes.get(home)[2];
                if (breaks != 0 && worked.get(home)[0] % breaks == 0) {
                    piece.brokenAt = home;
                    lot.row.remove(Integer.valueOf(p));
                }
                return;
            }
        }
    }

    int count(int what) {
        switch (what) {
            case 0: return day;
            case 1: return homes.size();
            case 2: return lots.size();
            case 3: return pieces.size();
            case 4: return (int) pieces.stream().filter(p -> p.brokenAt != NONE).count();
            case 5: return watches.size();
            case 6: return backs.size();
            case 7: return (int) lots.stream().filter(l -> !l.stand.equals("house")).count();
            default: return NONE;
        }
    }

    int lot(int lot, int what) {
        if (!isLot(lot) || !in(what, 0, 5)) {
            return NONE;
        }
        L l = lots.get(lot);
        boolean waits = l.stand.equals("waits");
        boolean goes = l.stand.equals("out") || l.stand.equals("back");
        int stand = List.of("house", "out", "waits", "back").indexOf(l.stand);
        // one that broke has left the row, yet was worked there
        int done = l.workedNow.size();
        int[] answers = {l.kind, l.row.size(), stand, l.home, goes ? l.toGo : 0, waits ? done : 0};
        return answers[what];
    }

    int at(int lot, int i) {
        return isLot(lot) && in(i, 0, lots.get(lot).row.size() - 1) ? lots.get(lot).row.get(i) : NONE;
    }

    int piece(int p, int what) {
        if (!in(p, 0, pieces.size() - 1) || !in(what, 0, 5)) {
            throw new NoSuchElementException();
        }
        P piece = pieces.get(p);
        int bits = piece.homes.stream().mapToInt(h -> 1 << h).sum();
        int state = piece.brokenAt != NONE ? 1 : piece.watch != NONE ? 2 : 0;
        int place = state == 1 ? piece.brokenAt : state == 2 ? piece.watch : NONE;
        for (int lot = 0; lot < lots.size() && state == 0; lot++) {
            if (lots.get(lot).row.contains(p)) {
                place = lot;
            }
        }
        return new int[] {piece.kind, piece.size, piece.raw, bits, state, place}[what];
    }

    int of(int home, int what) {
        if (!isHome(home) || !in(what, 0, 6)) {
            return NONE;
        }
        if (what < 4) {
            return homes.get(home)[what];
        }
        int broke = (int) pieces.stream().filter(p -> p.brokenAt == home).count();
        return new int[] {worked.get(home)[0], broke, queues.get(home).size()}[what - 4];
    }

    int wage(int home, int from, int v) {
        if (!isHome(home) || !in(from, 0, 400) || !in(v, 0, 1000) || wages.size() == 100) {
            return NONE;
        }
        wages.add(new int[] {home, from, v, day});
        return wages.size();
    }

    long due(int home, int known) {
        if (!isHome(home) || !in(known, 0, day)) {
            throw new NoSuchElementException();
        }
        long sum = 0;
        for (int[] sent : sendings) {
            if (sent[0] != home || sent[1] > known) {
                continue;
            }
            int from = NONE;
            long amount = 0;
            for (int[] told : wages) {
                if (told[0] == home && told[3] <= known && told[1] <= sent[1] && told[1] >= from) {
                    from = told[1];
                    amount = told[2];
                }
            }
            sum += amount * sent[2];
        }
        return sum;
    }

    boolean fit(int what, int low, int high) {
        if (!in(what, 0, 1) || low > high) {
            return false;
        }
        fit[what] = new int[] {low, high};
        return true;
    }

    int fits(int p, int q) {
        if (!in(p, 0, pieces.size() - 1) || !in(q, 0, pieces.size() - 1)) {
            return NONE;
        }
        int kind = pieces.get(p).kind;
        if (kind == 2 || pieces.get(q).kind != kind + 1) {
            return NONE;
        }
        return in(pieces.get(p).size - pieces.get(q).size, fit[kind][0], fit[kind][1]) ? 1 : 0;
    }

    private boolean canMake(int lot, int kind) {
        return isAtHouse(lot) && lots.get(lot).kind == kind && lots.get(lot).row.size() <= 10;
    }

    /** The first way, in the order of the row, to give each WHEEL from i on a mate; or null. */
    private List<Integer> mates(List<Integer> wheels, int i, List<Integer> row, Set<Integer> used) {
        if (i == wheels.size()) {
            return new ArrayList<>();
        }
        for (int mate : row) {
            boolean fitting = fits(mate, wheels.get(i)) == 1 || fits(wheels.get(i), mate) == 1;
            if (fitting && used.add(mate)) {
                List<Integer> rest = mates(wheels, i + 1, row, used);
                used.remove(mate);
                if (rest != null) {
                    rest.add(0, mate);
                    return rest;
                }
            }
        }
        return null;
    }

    /** WATCHES of THE MAKING; null if the LOTS are not as told. */
    private List<int[]> making(int plates, int wheels, int stones) {
        if (!canMake(plates, 0) || !canMake(wheels, 1) || !canMake(stones, 2)) {
            return null;
        }
        List<Integer> row = lots.get(wheels).row;
        List<int[]> best = new ArrayList<>();
        // Bits from the highest down stand for the places of the row: a set ahead is greater.
        for (int bits = (1 << row.size()) - 1; bits > 0; bits--) {
            if (Integer.bitCount(bits) <= best.size()) {
                continue;
            }
            List<Integer> set = new ArrayList<>();
            for (int i = 0; i < row.size(); i++) {
                if ((bits >> row.size() - 1 - i & 1) == 1) {
                    set.add(row.get(i));
                }
            }
            List<Integer> a = mates(set, 0, lots.get(plates).row, new HashSet<>());
            List<Integer> b = a == null ? null : mates(set, 0, lots.get(stones).row, new HashSet<>());
            if (b != null) {
                best = new ArrayList<>();
                for (int i = 0; i < set.size(); i++) {
                    best.add(new int[] {a.get(i), set.get(i), b.get(i)});
                }
            }
        }
        return best;
    }

    int most(int plates, int wheels, int stones) {
        List<int[]> made = making(plates, wheels, stones);
        return made == null ? NONE : made.size();
    }

    int make(int plates, int wheels, int stones) {
        List<int[]> made = making(plates, wheels, stones);
        if (made == null) {
            return NONE;
        }
        for (int[] watch : made) {
            for (int p : watch) {
                pieces.get(p).watch = watches.size();
                for (L lot : lots) {
                    lot.row.remove(Integer.valueOf(p));
                }
            }
            watches.add(watch);
        }
        return made.size();
    }

    int watch(int w, int what) {
        if (!in(w, 0, watches.size() - 1) || !in(what, 0, 4)) {
            return NONE;
        }
        if (what < 3) {
            return watches.get(w)[what];
        }
        if (what == 3) {
            return backs.contains(w) ? 1 : 0;
        }
        int bits = 0;
        for (int p : watches.get(w)) {
            bits |= piece(p, 3);
        }
        return bits;
    }

    boolean back(int w, boolean is) {
        if (!in(w, 0, watches.size() - 1)) {
            return false;
        }
        if (is) {
            backs.add(w);
        } else {
            backs.remove(w);
        }
        return true;
    }

    int counts(int home, int what) {
        if (!isHome(home) || !in(what, 0, 1)) {
            return NONE;
        }
        int found = 0;
        for (int w = 0; w < watches.size(); w++) {
            boolean by = false;
            for (int p : watches.get(w)) {
                by |= pieces.get(p).homes.contains(home);
            }
            if (by && (what == 0 || backs.contains(w))) {
                found++;
            }
        }
        return found;
    }

    int suspect(int m) {
        int worst = NONE;
        for (int home = 0; home < homes.size() && in(m, 1, 100); home++) {
            if (counts(home, 1) >= m && (worst == NONE
                    || counts(home, 1) * counts(worst, 0) > counts(worst, 1) * counts(home, 0))) {
                worst = home;
            }
        }
        return worst;
    }

    int recall(int raw) {
        if (!isLot(raw)) {
            return NONE;
        }
        int found = 0;
        for (int[] watch : watches) {
            Set<Integer> raws = new HashSet<>();
            for (int p : watch) {
                raws.add(pieces.get(p).raw);
            }
            found += raws.contains(raw) ? 1 : 0;
        }
        return found;
    }
}
