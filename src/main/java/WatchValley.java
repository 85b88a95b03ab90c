import java.util.Arrays;
import java.util.NoSuchElementException;

/** A valley that makes watches in farmhouses; the capitalised words are those of the document. */
public final class WatchValley {
    public static final int NONE = -1;

    private static final int PLATE = 0;
    private static final int WHEEL = 1;
    private static final int STONE = 2;

    private static final int WHOLE = 0;
    private static final int BROKEN = 1;
    private static final int IN_WATCH = 2;

    private static final int AT_HOUSE = 0;
    private static final int GOING_OUT = 1;
    private static final int WAITING = 2;
    private static final int GOING_HOME = 3;

    private static final int MAX_PIECES = 300;
    private static final int MAX_LOTS = 60;
    private static final int MAX_HOMES = 9;
    private static final int MAX_WATCHES = MAX_PIECES / 3;
    private static final int MAX_SENDINGS = 500;
    private static final int MAX_WAGES = 100;
    private static final int MAX_DAY = 400;
    private static final int MAX_RAW = 30;
    private static final int MAX_RAW_SIZE = 100;
    private static final int MAX_RATE = 20;
    private static final int MAX_OFF = 9;
    private static final int MAX_BREAK = 30;
    private static final int MAX_WAY = 9;
    private static final int MAX_WAGE = 1000;
    private static final int MAX_SUSPECT = 100;
    private static final int MAX_IN_MAKING = 10;

    private final Piece[] pieces = new Piece[MAX_PIECES];
    private final Lot[] lots = new Lot[MAX_LOTS];
    private final Home[] homes = new Home[MAX_HOMES];
    private final Watch[] watches = new Watch[MAX_WATCHES];
    private final Fit plateFit = new Fit();
    private final Fit stoneFit = new Fit();
    private final Making making = new Making();
    private int pieceCount;
    private int lotCount;
    private int homeCount;
    private int watchCount;
    private int sendingCount;
    private int wageCount;
    private int today;

    public WatchValley() {
    }

    // ---- homes, lots and days

    public int home(int rate, int off, int breaks, int way) {
        if (rate < 1 || rate > MAX_RATE || off < -MAX_OFF || off > MAX_OFF) {
            return NONE;
        }
        if (breaks < 0 || breaks > MAX_BREAK || way < 0 || way > MAX_WAY) {
            return NONE;
        }
        if (homeCount >= MAX_HOMES) {
            return NONE;
        }
        Home told = new Home(homeCount, rate, off, breaks, way);
        homes[homeCount] = told;
        homeCount++;
        return told.number;
    }

    public int raw(int kind, int n, int f, int step) {
        if (kind < PLATE || kind > STONE || n < 1 || n > MAX_RAW) {
            return NONE;
        }
        // SIZES run evenly, so the first and the last bound all; long, as step may be any int.
        long last = f + (n - 1L) * step;
        if (!isRawSize(f) || !isRawSize(last) || pieceCount + n > MAX_PIECES) {
            return NONE;
        }
        Lot lot = newLot(kind);
        if (lot == null) {
            return NONE;
        }
        for (int i = 0; i < n; i++) {
            Piece piece = new Piece(pieceCount, kind, f + i * step, lot.number);
            pieces[pieceCount] = piece;
            pieceCount++;
            lot.append(piece);
        }
        return lot.number;
    }

    public int split(int lot, int n) {
        Lot whole = lotAtHouse(lot);
        if (whole == null || n < 0 || n > whole.size) {
            return NONE;
        }
        Lot part = newLot(whole.kind);
        if (part == null) {
            return NONE;
        }
        whole.moveFirst(n, part);
        return part.number;
    }

    public int join(int a, int b) {
        Lot to = lotAtHouse(a);
        Lot from = lotAtHouse(b);
        if (to == null || from == null || a == b || to.kind != from.kind) {
            return NONE;
        }
        from.moveFirst(from.size, to);
        return to.size;
    }

    public boolean send(int lot, int home) {
        Lot sent = lotAtHouse(lot);
        Home goal = homeNumbered(home);
        if (sent == null || goal == null || sendingCount >= MAX_SENDINGS) {
            return false;
        }
        sendingCount++;
        goal.lastSending = new Sending(today, sent.size, goal.lastSending);
        sent.home = goal;
        sent.stand = GOING_OUT;
        sent.toGo = goal.way;
        return true;
    }

    public int day(boolean snow) {
        if (today >= MAX_DAY) {
            return NONE;
        }
        for (int i = 0; i < lotCount; i++) {
            Lot lot = lotNumbered(i);
            if (lot != null) {
                lot.travel(snow);
            }
        }
        int worked = 0;
        for (int i = 0; i < homeCount; i++) {
            Home home = homeNumbered(i);
            if (home != null) {
                worked += home.workDay();
            }
        }
        today++;
        return worked;
    }

    public int count(int what) {
        switch (what) {
            case 0: return today;
            case 1: return homeCount;
            case 2: return lotCount;
            case 3: return pieceCount;
            case 4: return brokenPieces();
            case 5: return watchCount;
            case 6: return watchesBack();
            case 7: return lotsOut();
            default: return NONE;
        }
    }

    public int lot(int lot, int what) {
        Lot asked = lotNumbered(lot);
        if (asked == null) {
            return NONE;
        }
        switch (what) {
            case 0: return asked.kind;
            case 1: return asked.size;
            case 2: return asked.stand;
            case 3: return asked.home == null ? NONE : asked.home.number;
            case 4: return asked.toGo;
            case 5: return asked.worked;
            default: return NONE;
        }
    }

    public int at(int lot, int i) {
        Lot asked = lotNumbered(lot);
        if (asked == null) {
            return NONE;
        }
        Piece piece = asked.pieceAt(i);
        return piece == null ? NONE : piece.number;
    }

    public int piece(int p, int what) throws NoSuchElementException {
        Piece asked = pieceNumbered(p);
        if (asked == null) {
            throw new NoSuchElementException("no such piece");
        }
        switch (what) {
            case 0: return asked.kind;
            case 1: return asked.size;
            case 2: return asked.raw;
            case 3: return asked.homes;
            case 4: return asked.state;
            case 5: return asked.place;
            default: throw new NoSuchElementException("no such question about a piece");
        }
    }

    public int of(int home, int what) {
        Home asked = homeNumbered(home);
        if (asked == null) {
            return NONE;
        }
        switch (what) {
            case 0: return asked.rate;
            case 1: return asked.off;
            case 2: return asked.breaks;
            case 3: return asked.way;
            case 4: return asked.worked;
            case 5: return asked.broke;
            case 6: return asked.waiting;
            default: return NONE;
        }
    }

    // ---- wages

    public int wage(int home, int from, int v) {
        Home paid = homeNumbered(home);
        if (paid == null || from < 0 || from > MAX_DAY || v < 0 || v > MAX_WAGE) {
            return NONE;
        }
        if (wageCount >= MAX_WAGES) {
            return NONE;
        }
        wageCount++;
        paid.lastWage = new Wage(today, from, v, paid.lastWage);
        return wageCount;
    }

    public long due(int home, int known) throws NoSuchElementException {
        Home paid = homeNumbered(home);
        if (paid == null) {
            throw new NoSuchElementException("no such home");
        }
        if (known < 0 || known > today) {
            throw new NoSuchElementException("no such day yet");
        }
        return paid.dueAsKnown(known);
    }

    // ---- watches

    public boolean fit(int what, int low, int high) {
        if (what < 0 || what > 1 || low > high) {
            return false;
        }
        Fit told = what == 0 ? plateFit : stoneFit;
        told.low = low;
        told.high = high;
        return true;
    }

    public int fits(int p, int q) {
        Piece first = pieceNumbered(p);
        Piece second = pieceNumbered(q);
        if (first == null || second == null) {
            return NONE;
        }
        if (first.kind == PLATE && second.kind == WHEEL) {
            return plateFit.allows(second, first) ? 1 : 0;
        }
        if (first.kind == WHEEL && second.kind == STONE) {
            return stoneFit.allows(first, second) ? 1 : 0;
        }
        return NONE;
    }

    public int most(int plates, int wheels, int stones) {
        Lot plateLot = lotForMaking(plates, PLATE);
        Lot wheelLot = lotForMaking(wheels, WHEEL);
        Lot stoneLot = lotForMaking(stones, STONE);
        if (plateLot == null || wheelLot == null || stoneLot == null) {
            return NONE;
        }
        making.readLots(plateLot, wheelLot, stoneLot, plateFit, stoneFit);
        return making.chooseWheels();
    }

    public int make(int plates, int wheels, int stones) {
        Lot plateLot = lotForMaking(plates, PLATE);
        Lot wheelLot = lotForMaking(wheels, WHEEL);
        Lot stoneLot = lotForMaking(stones, STONE);
        if (plateLot == null || wheelLot == null || stoneLot == null) {
            return NONE;
        }
        making.readLots(plateLot, wheelLot, stoneLot, plateFit, stoneFit);
        int made = making.chooseWheels();
        making.chooseMates();
        for (int i = 0; i < MAX_IN_MAKING; i++) {
            if (making.takes(i)) {
                assemble(plateLot.pieceAt(making.plateFor(i)), wheelLot.pieceAt(i),
                        stoneLot.pieceAt(making.stoneFor(i)));
            }
        }
        plateLot.dropTaken();
        wheelLot.dropTaken();
        stoneLot.dropTaken();
        return made;
    }

    public int watch(int w, int what) {
        Watch asked = watchNumbered(w);
        if (asked == null) {
            return NONE;
        }
        switch (what) {
            case 0: return asked.plate.number;
            case 1: return asked.wheel.number;
            case 2: return asked.stone.number;
            case 3: return asked.isBack ? 1 : 0;
            case 4: return asked.homesThatWorked();
            default: return NONE;
        }
    }

    public boolean back(int w, boolean is) {
        Watch told = watchNumbered(w);
        if (told == null) {
            return false;
        }
        told.isBack = is;
        return true;
    }

    public int counts(int home, int what) {
        if (homeNumbered(home) == null) {
            return NONE;
        }
        switch (what) {
            case 0: return watchesOf(home, false);
            case 1: return watchesOf(home, true);
            default: return NONE;
        }
    }

    public int suspect(int m) {
        if (m < 1 || m > MAX_SUSPECT) {
            return NONE;
        }
        int worst = NONE;
        int worstBad = 0;
        int worstAll = 1;
        for (int i = 0; i < homeCount; i++) {
            int bad = watchesOf(i, true);
            int all = watchesOf(i, false);
            // bad / all > worstBad / worstAll, without dividing
            if (bad >= m && bad * worstAll > worstBad * all) {
                worst = i;
                worstBad = bad;
                worstAll = all;
            }
        }
        return worst;
    }

    public int recall(int raw) {
        if (lotNumbered(raw) == null) {
            return NONE;
        }
        int found = 0;
        for (int i = 0; i < watchCount; i++) {
            Watch watch = watchNumbered(i);
            if (watch != null && watch.hasRaw(raw)) {
                found++;
            }
        }
        return found;
    }

    // ---- what the calls share

    private Home homeNumbered(int number) {
        return number >= 0 && number < homeCount && number < MAX_HOMES ? homes[number] : null;
    }

    private Lot lotNumbered(int number) {
        return number >= 0 && number < lotCount && number < MAX_LOTS ? lots[number] : null;
    }

    private Piece pieceNumbered(int number) {
        return number >= 0 && number < pieceCount && number < MAX_PIECES ? pieces[number] : null;
    }

    private Watch watchNumbered(int number) {
        return number >= 0 && number < watchCount && number < MAX_WATCHES ? watches[number] : null;
    }

    private Lot lotAtHouse(int number) {
        Lot lot = lotNumbered(number);
        return lot != null && lot.stand == AT_HOUSE ? lot : null;
    }

    private Lot lotForMaking(int number, int kind) {
        Lot lot = lotAtHouse(number);
        return lot != null && lot.kind == kind && lot.size <= MAX_IN_MAKING ? lot : null;
    }

    /** The next LOT, empty; null if there are as many as can be. */
    private Lot newLot(int kind) {
        if (lotCount >= MAX_LOTS) {
            return null;
        }
        Lot lot = new Lot(lotCount, kind);
        lots[lotCount] = lot;
        lotCount++;
        return lot;
    }

    private void assemble(Piece plate, Piece wheel, Piece stone) {
        if (plate == null || wheel == null || stone == null || watchCount >= MAX_WATCHES) {
            return;
        }
        plate.leaveRow(IN_WATCH, watchCount);
        wheel.leaveRow(IN_WATCH, watchCount);
        stone.leaveRow(IN_WATCH, watchCount);
        watches[watchCount] = new Watch(plate, wheel, stone);
        watchCount++;
    }

    private int brokenPieces() {
        int found = 0;
        for (int i = 0; i < homeCount; i++) {
            Home home = homeNumbered(i);
            if (home != null) {
                found += home.broke;
            }
        }
        return found;
    }

    private int lotsOut() {
        int found = 0;
        for (int i = 0; i < lotCount; i++) {
            Lot lot = lotNumbered(i);
            if (lot != null && lot.stand != AT_HOUSE) {
                found++;
            }
        }
        return found;
    }

    private int watchesBack() {
        int found = 0;
        for (int i = 0; i < watchCount; i++) {
            Watch watch = watchNumbered(i);
            if (watch != null && watch.isBack) {
                found++;
            }
        }
        return found;
    }

    /** ALL of a HOME; of these the ones that are BACK alone: BAD. */
    private int watchesOf(int home, boolean backAlone) {
        int found = 0;
        for (int i = 0; i < watchCount; i++) {
            Watch watch = watchNumbered(i);
            if (watch != null && watch.wasWorkedBy(home) && (watch.isBack || !backAlone)) {
                found++;
            }
        }
        return found;
    }

    private static boolean isRawSize(long size) {
        return size >= -MAX_RAW_SIZE && size <= MAX_RAW_SIZE;
    }

    private static final class Piece {
        final int number;
        final int kind;
        final int raw;
        int size;
        int homes;
        int state = WHOLE;
        /** The number of its LOT, of its WATCH, or of the HOME where it broke, by its state. */
        int place;
        Piece next;

        Piece(int number, int kind, int size, int raw) {
            this.number = number;
            this.kind = kind;
            this.size = size;
            this.raw = raw;
        }

        /** Tells the PIECE alone; the row still has it until its LOT unlinks it. */
        void leaveRow(int newState, int newPlace) {
            state = newState;
            place = newPlace;
        }
    }

    private static final class Lot {
        final int number;
        final int kind;
        Piece first;
        Piece last;
        int size;
        int stand = AT_HOUSE;
        Home home;
        int toGo;
        /** The last PIECE of the row that was worked on this visit and is still WHOLE. */
        Piece lastWorked;
        /** How many PIECES were worked on this visit, those that broke on it too. */
        int worked;
        Lot nextWaiting;

        Lot(int number, int kind) {
            this.number = number;
            this.kind = kind;
        }

        void append(Piece piece) {
            piece.place = number;
            piece.next = null;
            if (last == null) {
                first = piece;
            } else {
                last.next = piece;
            }
            last = piece;
            size++;
        }

        void moveFirst(int n, Lot to) {
            for (int i = 0; i < n && first != null; i++) {
                Piece moved = first;
                unlink(null, moved);
                to.append(moved);
            }
        }

        /** Takes a PIECE out of the row; before is the one ahead of it, null for the first. */
        void unlink(Piece before, Piece piece) {
            if (before == null) {
                first = piece.next;
            } else {
                before.next = piece.next;
            }
            if (piece.next == null) {
                last = before;
            }
            size--;
        }

        void dropTaken() {
            Piece before = null;
            for (Piece piece = first; piece != null; piece = piece.next) {
                if (piece.state == WHOLE) {
                    before = piece;
                } else {
                    unlink(before, piece);
                }
            }
        }

        Piece pieceAt(int i) {
            if (i < 0 || i >= size) {
                return null;
            }
            Piece found = first;
            for (int k = 0; k < i && found != null; k++) {
                found = found.next;
            }
            return found;
        }

        Piece nextToWork() {
            return lastWorked == null ? first : lastWorked.next;
        }

        void travel(boolean snow) {
            if (home == null || stand == AT_HOUSE || stand == WAITING) {
                return;
            }
            if (!snow && toGo > 0) {
                toGo--;
            }
            if (toGo > 0) {
                return;
            }
            if (stand == GOING_OUT) {
                stand = WAITING;
                home.receive(this);
            } else {
                stand = AT_HOUSE;
                home = null;
            }
        }

        void turnHome(int way) {
            stand = GOING_HOME;
            toGo = way;
            lastWorked = null;
            worked = 0;
            nextWaiting = null;
        }
    }

    private static final class Home {
        final int number;
        final int rate;
        final int off;
        final int breaks;
        final int way;
        int worked;
        int broke;
        int waiting;
        Lot firstWaiting;
        Lot lastWaiting;
        Sending lastSending;
        Wage lastWage;

        Home(int number, int rate, int off, int breaks, int way) {
            this.number = number;
            this.rate = rate;
            this.off = off;
            this.breaks = breaks;
            this.way = way;
        }

        void receive(Lot lot) {
            if (lastWaiting == null) {
                firstWaiting = lot;
            } else {
                lastWaiting.nextWaiting = lot;
            }
            lastWaiting = lot;
            waiting++;
        }

        /** How many PIECES were worked. Each turn works a PIECE or lets a LOT go: so the bound. */
        int workDay() {
            int done = 0;
            for (int turn = 0; turn < MAX_RATE + MAX_LOTS; turn++) {
                Lot lot = firstWaiting;
                if (lot == null) {
                    break;
                }
                Piece piece = lot.nextToWork();
                // A LOT with nothing left goes even when RATE is used up: it costs no PIECE.
                if (piece == null) {
                    release(lot);
                } else if (done < rate) {
                    workPiece(lot, piece);
                    done++;
                } else {
                    break;
                }
            }
            return done;
        }

        private void release(Lot lot) {
            firstWaiting = lot.nextWaiting;
            if (firstWaiting == null) {
                lastWaiting = null;
            }
            waiting--;
            lot.turnHome(way);
        }

        private void workPiece(Lot lot, Piece piece) {
            piece.size += off;
            piece.homes |= 1 << number;
            worked++;
            lot.worked++;
            if (breaks > 0 && worked % breaks == 0) {
                broke++;
                piece.leaveRow(BROKEN, number);
                lot.unlink(lot.lastWorked, piece);
            } else {
                lot.lastWorked = piece;
            }
        }

        long dueAsKnown(int known) {
            long sum = 0;
            for (Sending sent = lastSending; sent != null; sent = sent.before) {
                if (sent.day <= known) {
                    sum += (long) sent.pieces * wageFor(sent.day, known);
                }
            }
            return sum;
        }

        private int wageFor(int sentDay, int known) {
            Wage best = null;
            for (Wage told = lastWage; told != null; told = told.before) {
                // The chain begins with the one told last, which so wins among equal days.
                if (told.toldOn <= known && told.from <= sentDay
                        && (best == null || told.from > best.from)) {
                    best = told;
                }
            }
            return best == null ? 0 : best.amount;
        }
    }

    /** A LOT sent to a HOME, in a chain from the last one back. */
    private static final class Sending {
        final int day;
        final int pieces;
        final Sending before;

        Sending(int day, int pieces, Sending before) {
            this.day = day;
            this.pieces = pieces;
            this.before = before;
        }
    }

    /** A WAGE told of a HOME, in a chain from the last one back. */
    private static final class Wage {
        final int toldOn;
        final int from;
        final int amount;
        final Wage before;

        Wage(int toldOn, int from, int amount, Wage before) {
            this.toldOn = toldOn;
            this.from = from;
            this.amount = amount;
            this.before = before;
        }
    }

    private static final class Watch {
        final Piece plate;
        final Piece wheel;
        final Piece stone;
        boolean isBack;

        Watch(Piece plate, Piece wheel, Piece stone) {
            this.plate = plate;
            this.wheel = wheel;
            this.stone = stone;
        }

        int homesThatWorked() {
            return plate.homes | wheel.homes | stone.homes;
        }

        boolean wasWorkedBy(int home) {
            return (homesThatWorked() >> home & 1) == 1;
        }

        boolean hasRaw(int raw) {
            return plate.raw == raw || wheel.raw == raw || stone.raw == raw;
        }
    }

    /** By how much a PLATE may be more than a WHEEL, or a WHEEL more than a STONE. */
    private static final class Fit {
        int low;
        int high;

        boolean allows(Piece wheel, Piece mate) {
            int more = mate.kind == PLATE ? mate.size - wheel.size : wheel.size - mate.size;
            return low <= more && more <= high;
        }
    }

    /** THE MAKING. PLATES and STONES are chosen apart, as both FIT to the WHEEL alone. */
    private static final class Making {
        private final Mates plates = new Mates();
        private final Mates stones = new Mates();
        private int wheelCount;
        private int bestCount;
        private int bestSet;

        void readLots(Lot plateLot, Lot wheelLot, Lot stoneLot, Fit plateFit, Fit stoneFit) {
            wheelCount = Math.min(wheelLot.size, MAX_IN_MAKING);
            plates.readLots(wheelLot, plateLot, plateFit);
            stones.readLots(wheelLot, stoneLot, stoneFit);
        }

        /** Finds the SET; how many WHEELS it has. */
        int chooseWheels() {
            bestCount = NONE;
            tryWheel(0, 0, 0);
            return bestCount;
        }

        /**
         * Tries each WHEEL first with, then without: so of sets of as many the one that stands
         * first comes first, and a later one must have more.
         */
        private void tryWheel(int wheel, int taken, int takenSet) {
            if (taken + wheelCount - wheel <= bestCount) {
                return;
            }
            if (wheel >= wheelCount || wheel >= MAX_IN_MAKING) {
                bestCount = taken;
                bestSet = takenSet;
                return;
            }
            if (plates.seat(wheel)) {
                if (stones.seat(wheel)) {
                    tryWheel(wheel + 1, taken + 1, takenSet | 1 << wheel);
                    stones.unseat(wheel);
                }
                plates.unseat(wheel);
            }
            tryWheel(wheel + 1, taken, takenSet);
        }

        void chooseMates() {
            plates.settle(bestSet);
            stones.settle(bestSet);
        }

        boolean takes(int wheel) {
            return (bestSet >> wheel & 1) == 1;
        }

        int plateFor(int wheel) {
            return plates.settledFor(wheel);
        }

        int stoneFor(int wheel) {
            return stones.settledFor(wheel);
        }
    }

    /** WHEELS and the places of one row of mates, PLATES or STONES, that they can have. */
    private static final class Mates {
        /** By WHEEL: the places that FIT, as bits. */
        private final int[] fitting = new int[MAX_IN_MAKING];
        /** By place: the WHEEL that has it for now, or NONE. */
        private final int[] holder = new int[MAX_IN_MAKING];
        /** By WHEEL: the place that it gets in the end. */
        private final int[] settled = new int[MAX_IN_MAKING];
        /** Places that are given away for good, as bits. */
        private int given;
        /** Places that the running search has seen, as bits. */
        private int seen;

        void readLots(Lot wheelLot, Lot mateLot, Fit fit) {
            Arrays.fill(holder, NONE);
            given = 0;
            Piece wheel = wheelLot.first;
            for (int i = 0; i < MAX_IN_MAKING && wheel != null; i++) {
                fitting[i] = placesFor(wheel, mateLot, fit);
                wheel = wheel.next;
            }
        }

        private static int placesFor(Piece wheel, Lot mateLot, Fit fit) {
            int bits = 0;
            int bit = 1;
            for (Piece mate = mateLot.first; mate != null; mate = mate.next) {
                if (fit.allows(wheel, mate)) {
                    bits |= bit;
                }
                bit <<= 1;
            }
            return bits;
        }

        /**
         * Seats one WHEEL more, moving others to other places if need be. If it can't be, all
         * stay where they are.
         */
        boolean seat(int wheel) {
            seen = 0;
            return seatOrMove(wheel, 0);
        }

        private boolean seatOrMove(int wheel, int depth) {
            if (wheel < 0 || wheel >= MAX_IN_MAKING || depth > MAX_IN_MAKING) {
                return false;
            }
            for (int place = 0; place < MAX_IN_MAKING; place++) {
                int bit = 1 << place;
                if ((fitting[wheel] & ~given & ~seen & bit) == 0) {
                    continue;
                }
                seen |= bit;
                if (holder[place] == NONE || seatOrMove(holder[place], depth + 1)) {
                    holder[place] = wheel;
                    return true;
                }
            }
            return false;
        }

        void unseat(int wheel) {
            for (int place = 0; place < MAX_IN_MAKING; place++) {
                if (holder[place] == wheel) {
                    holder[place] = NONE;
                }
            }
        }

        void settle(int set) {
            for (int wheel = 0; wheel < MAX_IN_MAKING; wheel++) {
                if ((set >> wheel & 1) == 1) {
                    settled[wheel] = firstPlaceFor(wheel, set);
                }
            }
        }

        private int firstPlaceFor(int wheel, int set) {
            if (wheel < 0 || wheel >= MAX_IN_MAKING) {
                return NONE;
            }
            for (int place = 0; place < MAX_IN_MAKING; place++) {
                int bit = 1 << place;
                if ((fitting[wheel] & ~given & bit) == 0) {
                    continue;
                }
                given |= bit;
                if (canSeatBehind(wheel, set)) {
                    return place;
                }
                given &= ~bit;
            }
            return NONE;
        }

        private boolean canSeatBehind(int wheel, int set) {
            Arrays.fill(holder, NONE);
            for (int behind = wheel + 1; behind < MAX_IN_MAKING; behind++) {
                if ((set >> behind & 1) == 1 && !seat(behind)) {
                    return false;
                }
            }
            return true;
        }

        int settledFor(int wheel) {
            return wheel >= 0 && wheel < MAX_IN_MAKING ? settled[wheel] : NONE;
        }
    }
}
