/**
 * Sales under an auctioneer who is deaf on one side: a room of seats, buyers who sit in it, what
 * lots are worth to them, and what follows from it. README.md says how to use it.
 */
public final class DeafAuction {
    public static final int UNKNOWN = -1, OUTSIDE = -2, STATE = -3, FULL = -4, NONE = -9;
    public static final long LOST = Long.MIN_VALUE;

    private static final int NO_FAULT = 0, NULL = 1, CAST = 2, INDEX = 3, SIZE = 4;
    private static final int FAULT_BASE = -10, TEXT_FAULT_BASE = -100, GAIN_BASE = 100;
    private static final int LOTS = 4, LAWS = 3, KINDS = 3;
    private static final int SHEETS = 4, LANES = 3, MOST_CELLS = 60;
    private static final int MOST_BUYERS = 6, LEAST_BUYERS = 2, EVERYONE = 63;
    private static final int MOST_WORTH = 99, MOST_PRICE = 99, MOST_READINGS = 6;
    /** A bid puts the price up by 1 at least, and no limit is beyond the greatest purse, 99. */
    private static final int MOST_BIDS = 99;
    private static final int TEXT_HEAD = 3, TEXT_EACH = 4, TEXT_WHOLE = -1;
    private static final int ALL_TOGETHER = -1, AWAY = -1, NOTHING = -1;

    private final Sheet[] sheets;
    private final Trail trail;
    private final Room room;
    private final Bidding bidding;
    private final Clerk clerk;
    private int latestFault;

    public DeafAuction() {
        sheets = new Sheet[SHEETS];
        for (int k = 0; k < SHEETS; k++) {
            sheets[k] = new Sheet();
        }
        trail = new Trail();
        room = new Room();
        bidding = new Bidding(room);
        clerk = new Clerk();
        latestFault = NO_FAULT;
    }

    // ---- 1 the hall

    public int hall(int sheet, int lane, int i, int n) {
        latestFault = NO_FAULT;
        Sheet text = sheetOf(sheet);
        if (text == null) {
            return UNKNOWN;
        }
        if (!isLane(lane)) {
            return OUTSIDE;
        }
        int faulty = text.faultOfTaking(lane, i, n);
        if (faulty != NO_FAULT) {
            return meet(faulty);
        }
        int place = firstFault(text, i, n);
        if (place != TEXT_WHOLE) {
            return TEXT_FAULT_BASE - place;
        }
        fillRoom(text, i, n);
        clerk.keepOnly(0);
        return room.count;
    }

    public int ofBuyer(int b, int what) {
        Buyer buyer = room.buyerOf(b);
        if (buyer == null) {
            return UNKNOWN;
        }
        switch (what) {
            case 0:
                return buyer.kind();
            case 1:
                return buyer.seat;
            case 2:
                return buyer.purse;
            case 3:
                return room.shows(buyer) ? 1 : 0;
            default:
                return OUTSIDE;
        }
    }

    public int worth(int b, int lot, int v) {
        Buyer buyer = room.buyerOf(b);
        if (buyer == null || !isLot(lot)) {
            return UNKNOWN;
        }
        if (v < 0 || v > MOST_WORTH) {
            return OUTSIDE;
        }
        int before = buyer.worths[lot];
        buyer.worths[lot] = v;
        return before;
    }

    public int limit(int b, int lot) {
        Buyer buyer = room.buyerOf(b);
        if (buyer == null || !isLot(lot)) {
            return UNKNOWN;
        }
        return buyer.limitBy(buyer.worths[lot], buyer.purse);
    }

    public int sit(int b, int seat) {
        Buyer buyer = room.buyerOf(b);
        if (buyer == null || !isBelow(seat, room.seats)) {
            return UNKNOWN;
        }
        if (!room.isFreeFor(buyer, seat)) {
            return STATE;
        }
        int before = buyer.seat;
        buyer.seat = seat;
        return before;
    }

    public int law(int v) {
        if (!isBelow(v, LAWS)) {
            return OUTSIDE;
        }
        if (!room.isThere()) {
            return STATE;
        }
        int before = room.deafness;
        room.deafness = v;
        return before;
    }

    // ---- 2 sales

    public int sale(int lot, int what) {
        if (!isLot(lot)) {
            return UNKNOWN;
        }
        if (!isBelow(what, 3)) {
            return OUTSIDE;
        }
        if (!room.isThere()) {
            return STATE;
        }
        sellTo(EVERYONE, lot);
        if (what == 0) {
            return bidding.price;
        }
        return what == 1 ? bidding.owner : bidding.bids;
    }

    public int bid(int lot, int k) {
        if (!isLot(lot) || k < 0) {
            return UNKNOWN;
        }
        if (!room.isThere()) {
            return STATE;
        }
        sellTo(EVERYONE, lot);
        return bidding.bidOf(k);
    }

    public int ends(int b, int lot) {
        if (room.buyerOf(b) == null || !isLot(lot)) {
            return UNKNOWN;
        }
        sellTo(EVERYONE, lot);
        return bidding.places[b];
    }

    public int row(int b, int sheet, int lane, int i, int n) {
        latestFault = NO_FAULT;
        Sheet cells = sheetOf(sheet);
        boolean known = b == ALL_TOGETHER || room.buyerOf(b) != null;
        if (!known || cells == null) {
            return UNKNOWN;
        }
        if (!isLane(lane)) {
            return OUTSIDE;
        }
        if (!room.isThere()) {
            return STATE;
        }
        int faulty = cells.faultOfTaking(lane, i, n);
        if (faulty != NO_FAULT) {
            return meet(faulty);
        }
        if (!areLotsOnce(cells, i, n)) {
            return UNKNOWN;
        }
        int sum = sellRow(cells, i, n);
        return b == ALL_TOGETHER ? sum : bidding.purses[b];
    }

    // ---- 3 seats, orders, rings

    public int gain(int b, int lot) {
        Buyer buyer = room.buyerOf(b);
        if (buyer == null || !isLot(lot)) {
            return UNKNOWN;
        }
        return GAIN_BASE + gainFrom(buyer, buyer.seat, lot);
    }

    public int best(int b, int lot, int what) {
        Buyer buyer = room.buyerOf(b);
        if (buyer == null || !isLot(lot)) {
            return UNKNOWN;
        }
        if (!isBelow(what, 2)) {
            return OUTSIDE;
        }
        int bestSeat = buyer.seat;
        int most = NONE;
        for (int seat = 0; seat < room.seats; seat++) {
            if (!room.isFreeFor(buyer, seat)) {
                continue;
            }
            int gained = gainFrom(buyer, seat, lot);
            if (gained > most) {
                most = gained;
                bestSeat = seat;
            }
        }
        return what == 0 ? bestSeat : GAIN_BASE + most;
    }

    public int order(int q) {
        if (q != ALL_TOGETHER && !isBelow(q, LOTS)) {
            return UNKNOWN;
        }
        if (!room.isThere()) {
            return STATE;
        }
        int most = NONE;
        int bestCode = 0;
        for (int code = 0; code < 256; code++) {
            if (!isEachLotOnce(code)) {
                continue;
            }
            int sum = sellOrder(code);
            if (sum > most) {
                most = sum;
                bestCode = code;
            }
        }
        return q == ALL_TOGETHER ? most : lotOfOrder(bestCode, q);
    }

    public int ring(int set, int lot) {
        if (!isLot(lot)) {
            return UNKNOWN;
        }
        if ((set & ~room.setOfAll()) != 0) {
            return OUTSIDE;
        }
        if (!room.isThere()) {
            return STATE;
        }
        bidding.gather(EVERYONE);
        bidding.offer(lot);
        bidding.silenceAllButFirst(set);
        bidding.hold();
        return bidding.price;
    }

    public long mean(int lot, int which) {
        if (!isLot(lot) || !isBelow(which, 2) || !room.isThere()) {
            return LOST;
        }
        int all = room.setOfAll();
        long upper = 0;
        for (int set = 0; set <= all; set++) {
            sellTo(set, lot);
            upper += bidding.price;
        }
        // There are a power of 2 of sets: 2 is all that the two numbers can share.
        long lower = all + 1L;
        while (lower > 1 && (upper & 1) == 0) {
            lower >>= 1;
            upper >>= 1;
        }
        return which == 0 ? upper : lower;
    }

    public int hangs(int lot) {
        if (!isLot(lot)) {
            return UNKNOWN;
        }
        if (!room.isThere()) {
            return STATE;
        }
        sellTo(EVERYONE, lot);
        int owner = bidding.owner;
        int set = 0;
        for (int b = 0; b < room.count; b++) {
            sellTo(EVERYONE & ~(1 << b), lot);
            if (bidding.owner != owner) {
                set |= 1 << b;
            }
        }
        return set;
    }

    // ---- 4 what a clerk wrote

    public int reading(int lot, int price) {
        if (!isLot(lot)) {
            return UNKNOWN;
        }
        if (price < 0 || price > MOST_PRICE) {
            return OUTSIDE;
        }
        if (!room.isThere()) {
            return STATE;
        }
        if (clerk.count >= MOST_READINGS) {
            return FULL;
        }
        clerk.write(lot, price);
        return clerk.count - 1;
    }

    public int back(int k) {
        if (k < 0 || k > clerk.count) {
            return OUTSIDE;
        }
        clerk.keepOnly(clerk.count - k);
        return clerk.count;
    }

    public int values(int b, int lot, int k) {
        Buyer buyer = room.buyerOf(b);
        if (buyer == null || !isLot(lot) || k < ALL_TOGETHER) {
            return UNKNOWN;
        }
        int found = 0;
        int limit = NONE;
        boolean so = false;
        boolean othersSo = areReadingsSo(b, buyer.seat, lot);
        for (int v = 0; othersSo && v <= MOST_WORTH; v++) {
            int next = buyer.limitBy(v, buyer.purse);
            // The price hangs on the limit alone, which stands still beyond the purse.
            if (next != limit) {
                limit = next;
                so = isReadingSo(b, lot, limit);
            }
            if (so && found == k) {
                return v;
            }
            found += so ? 1 : 0;
        }
        return k == ALL_TOGETHER ? found : NONE;
    }

    public int places(int b) {
        Buyer buyer = room.buyerOf(b);
        if (buyer == null) {
            return UNKNOWN;
        }
        int set = 0;
        for (int seat = 0; seat < room.seats; seat++) {
            if (room.isFreeFor(buyer, seat) && areReadingsSo(b, seat, NONE)) {
                set |= 1 << seat;
            }
        }
        return set;
    }

    // ---- 5 sheets, parts

    public int sheet(int k, int lane, int n) {
        latestFault = NO_FAULT;
        Sheet fresh = sheetOf(k);
        if (fresh == null) {
            return UNKNOWN;
        }
        if (!isLane(lane) || n > MOST_CELLS) {
            return OUTSIDE;
        }
        if (n < 0) {
            return meet(SIZE);
        }
        fresh.lay(lane, n);
        return 1;
    }

    public int lose(int k) {
        Sheet old = sheetOf(k);
        if (old == null) {
            return UNKNOWN;
        }
        if (old.lane == NOTHING) {
            return 0;
        }
        old.lay(NOTHING, 0);
        return 1;
    }

    public int put(int k, int i, int v) {
        latestFault = NO_FAULT;
        Sheet target = sheetOf(k);
        if (target == null) {
            return UNKNOWN;
        }
        int faulty = target.faultOfTaking(target.lane, i, 1);
        if (faulty != NO_FAULT) {
            return meet(faulty);
        }
        target.write(i, v);
        return 1;
    }

    public long cell(int k, int i, int lane) {
        latestFault = NO_FAULT;
        Sheet source = sheetOf(k);
        if (source == null || !isLane(lane)) {
            return LOST;
        }
        int faulty = source.faultOfTaking(lane, i, 1);
        if (faulty != NO_FAULT) {
            meet(faulty);
            return LOST;
        }
        return source.at(i);
    }

    public int copy(int k, int i, int other, int j, int n) {
        latestFault = NO_FAULT;
        Sheet source = sheetOf(k);
        Sheet target = sheetOf(other);
        if (source == null || target == null) {
            return UNKNOWN;
        }
        if (source.lane == NOTHING || target.lane == NOTHING) {
            return meet(NULL);
        }
        if (source.lane != target.lane) {
            return meet(CAST);
        }
        if (n < 0 || !source.holds(i, n) || !target.holds(j, n)) {
            return meet(INDEX);
        }
        System.arraycopy(source.cells, i, target.cells, j, n);
        return n;
    }

    public int tell(int b) {
        Buyer buyer = room.buyerOf(b);
        return buyer == null ? UNKNOWN : buyer.telling(trail);
    }

    public int nod(int b) {
        Buyer buyer = room.buyerOf(b);
        return buyer == null ? UNKNOWN : buyer.nodding(trail);
    }

    public int as(int b, int kind) {
        latestFault = NO_FAULT;
        Buyer buyer = room.buyerOf(b);
        if (buyer == null) {
            return UNKNOWN;
        }
        if (!isBelow(kind, KINDS)) {
            return OUTSIDE;
        }
        boolean fits = kind == 0
                || kind == 1 && buyer instanceof Hatted
                || kind == 2 && buyer instanceof Nervous;
        return fits ? 1 : meet(CAST);
    }

    public int trace() {
        return trail.left;
    }

    public int fault() {
        return latestFault;
    }

    public int many(int what) {
        switch (what) {
            case 0:
                return room.count;
            case 1:
                return room.seats;
            case 2:
                return room.deafness;
            case 3:
                return clerk.count;
            default:
                return OUTSIDE;
        }
    }

    // ---- what the calls share

    private static boolean isBelow(int number, int bound) {
        return number >= 0 && number < bound;
    }

    private static boolean isIn(int set, int number) {
        return ((set >> number) & 1) == 1;
    }

    private static boolean isLot(int lot) {
        return isBelow(lot, LOTS);
    }

    private static boolean isLane(int lane) {
        return isBelow(lane, LANES);
    }

    private Sheet sheetOf(int k) {
        return isBelow(k, SHEETS) ? sheets[k] : null;
    }

    private int meet(int faulty) {
        latestFault = faulty;
        return FAULT_BASE - faulty;
    }

    // ---- the text of a hall

    private static int firstFault(Sheet text, int i, int n) {
        for (int place = 0; place < n; place++) {
            if (!goesOn(text, i, place)) {
                return place;
            }
        }
        boolean whole = n >= TEXT_HEAD + LEAST_BUYERS * TEXT_EACH
                && (n - TEXT_HEAD) % TEXT_EACH == 0;
        return whole ? TEXT_WHOLE : n;
    }

    /** Whether a text can go on with the code at a place, all codes ahead of it being right. */
    private static boolean goesOn(Sheet text, int i, int place) {
        int code = text.at(i + place);
        if (place == 0) {
            return code == 'a';
        }
        if (place == 1) {
            return isAmong(code, '1', '4');
        }
        if (place == 2) {
            return isAmong(code, '2', '6');
        }
        switch ((place - TEXT_HEAD) % TEXT_EACH) {
            case 0:
                return code == ';' && isOneMoreLetIn(text, i, place);
            case 1:
                return code == 'b' || code == 'h' || code == 'n';
            case 2:
                return isAmong(code, '0', '9');
            default:
                return isAmong(code, text.at(i + place - 1) == '0' ? '1' : '0', '9');
        }
    }

    private static boolean isAmong(int code, int least, int most) {
        return code >= least && code <= most;
    }

    private static boolean isOneMoreLetIn(Sheet text, int i, int place) {
        int ahead = (place - TEXT_HEAD) / TEXT_EACH;
        int seats = digitAt(text, i + 1) * digitAt(text, i + 2);
        return ahead < MOST_BUYERS && ahead < seats;
    }

    private static int digitAt(Sheet text, int i) {
        return text.at(i) - '0';
    }

    private void fillRoom(Sheet text, int i, int n) {
        room.lay(digitAt(text, i + 1), digitAt(text, i + 2));
        for (int from = TEXT_HEAD; from < n; from += TEXT_EACH) {
            int purse = 10 * digitAt(text, i + from + 2) + digitAt(text, i + from + 3);
            room.welcome(buyerBy(text.at(i + from + 1), room.count, purse));
        }
    }

    private static Buyer buyerBy(int letter, int number, int purse) {
        if (letter == 'n') {
            return new Nervous(number, purse);
        }
        return letter == 'h' ? new Hatted(number, purse) : new Buyer(number, purse);
    }

    // ---- ways to sell

    private void sellTo(int set, int lot) {
        bidding.gather(set);
        bidding.offer(lot);
        bidding.hold();
    }

    private void sellFrom(int b, int seat, int lot) {
        bidding.gather(EVERYONE);
        bidding.places[b] = seat;
        bidding.offer(lot);
        bidding.hold();
    }

    private int gainFrom(Buyer buyer, int seat, int lot) {
        sellFrom(buyer.number, seat, lot);
        return bidding.owner == buyer.number ? buyer.worths[lot] - bidding.price : 0;
    }

    private static boolean areLotsOnce(Sheet cells, int i, int n) {
        int told = 0;
        for (int q = 0; q < n; q++) {
            int lot = cells.at(i + q);
            if (!isLot(lot) || isIn(told, lot)) {
                return false;
            }
            told |= 1 << lot;
        }
        return true;
    }

    private int sellRow(Sheet cells, int i, int n) {
        int sum = 0;
        bidding.gather(EVERYONE);
        for (int q = 0; q < n; q++) {
            sum += bidding.sellOn(cells.at(i + q));
        }
        return sum;
    }

    /** An order of all lots is a code of four digits to the base 4: rising codes, rising orders. */
    private static int lotOfOrder(int code, int q) {
        return (code >> (2 * (LOTS - 1 - q))) & 3;
    }

    private static boolean isEachLotOnce(int code) {
        int told = 0;
        for (int q = 0; q < LOTS; q++) {
            told |= 1 << lotOfOrder(code, q);
        }
        return told == 15;
    }

    private int sellOrder(int code) {
        int sum = 0;
        bidding.gather(EVERYONE);
        for (int q = 0; q < LOTS; q++) {
            sum += bidding.sellOn(lotOfOrder(code, q));
        }
        return sum;
    }

    /** Whether the readings of all lots but one are so, if a buyer sits in a seat. */
    private boolean areReadingsSo(int b, int seat, int exceptLot) {
        for (int lot = 0; lot < LOTS; lot++) {
            if (lot == exceptLot || !clerk.hasOf(lot)) {
                continue;
            }
            sellFrom(b, seat, lot);
            if (!clerk.agrees(lot, bidding.price)) {
                return false;
            }
        }
        return true;
    }

    /** Whether the readings of a lot are so, if a buyer has a limit. */
    private boolean isReadingSo(int b, int lot, int limit) {
        if (!clerk.hasOf(lot)) {
            return true;
        }
        bidding.gather(EVERYONE);
        bidding.offer(lot);
        bidding.limits[b] = limit;
        bidding.hold();
        return clerk.agrees(lot, bidding.price);
    }

    // ---- parts

    /** What the bodies of tellings and nods leave behind. */
    private static final class Trail {
        private int left;

        void leave(int body) {
            left = 31 * left + body;
        }
    }

    private static class Buyer {
        final int number;
        final int purse;
        final int[] worths;
        int seat;

        Buyer(int number, int purse) {
            this.number = number;
            this.purse = purse;
            this.worths = new int[LOTS];
            this.seat = number;
        }

        int kind() {
            return 0;
        }

        boolean wearsHat() {
            return false;
        }

        int limitBy(int value, int money) {
            return Math.min(value, money);
        }

        int telling(Trail trail) {
            return plainTelling(trail);
        }

        /** Apart from telling(), so that the nervous can reach it past the hatted's. */
        final int plainTelling(Trail trail) {
            trail.leave(1);
            return purse;
        }

        int nodding(Trail trail) {
            trail.leave(4);
            return number;
        }
    }

    private static class Hatted extends Buyer {
        Hatted(int number, int purse) {
            super(number, purse);
        }

        int kind() {
            return 1;
        }

        boolean wearsHat() {
            return true;
        }

        int telling(Trail trail) {
            trail.leave(2);
            return plainTelling(trail) + 100;
        }
    }

    private static final class Nervous extends Hatted {
        Nervous(int number, int purse) {
            super(number, purse);
        }

        int kind() {
            return 2;
        }

        int limitBy(int value, int money) {
            return Math.max(0, Math.min(value, money) - 2);
        }

        int telling(Trail trail) {
            trail.leave(3);
            int hatted = super.telling(trail);
            return hatted + plainTelling(trail);
        }

        int nodding(Trail trail) {
            trail.leave(5);
            return 80;
        }
    }

    /** The hall: its seats, and who sits in them. Without buyers there is no hall. */
    private static final class Room {
        private final Buyer[] buyers = new Buyer[MOST_BUYERS];
        private int count;
        private int seats;
        private int wide;
        private int deafness;
        /** Sets of seats: those on the left, and those with none to the right of them. */
        private int leftSeats;
        private int lastSeats;

        void lay(int rows, int width) {
            count = 0;
            deafness = 0;
            wide = width;
            seats = 0;
            leftSeats = 0;
            lastSeats = 0;
            for (int r = 0; r < rows; r++) {
                for (int column = 0; column < width; column++) {
                    leftSeats |= column < width / 2 ? 1 << seats : 0;
                    lastSeats |= column == width - 1 ? 1 << seats : 0;
                    seats++;
                }
            }
        }

        void welcome(Buyer buyer) {
            if (count < MOST_BUYERS) {
                buyers[count] = buyer;
                count++;
            }
        }

        boolean isThere() {
            return count > 0;
        }

        Buyer buyerOf(int b) {
            return isBelow(b, count) && b < MOST_BUYERS ? buyers[b] : null;
        }

        int setOfAll() {
            return (1 << count) - 1;
        }

        int seatsTwice() {
            if (deafness == 0) {
                return leftSeats;
            }
            return deafness == 1 ? ~leftSeats : 0;
        }

        boolean isFreeFor(Buyer buyer, int seat) {
            for (int b = 0; b < MOST_BUYERS; b++) {
                Buyer other = buyerOf(b);
                if (other != null && other != buyer && other.seat == seat) {
                    return false;
                }
            }
            return true;
        }

        boolean shows(Buyer buyer) {
            int ahead = buyer.seat - wide;
            return !buyer.wearsHat() || ahead < 0 || isFreeFor(buyer, ahead);
        }
    }

    /** Sales in the room; made once, its rows serve every call. */
    private static final class Bidding {
        private final Room room;
        /** By buyer: the seat (or AWAY), what is left of the purse, how far it goes. */
        private final int[] places = new int[MOST_BUYERS];
        private final int[] purses = new int[MOST_BUYERS];
        private final int[] limits = new int[MOST_BUYERS];
        private final int[] line = new int[MOST_BUYERS];
        private final int[] told = new int[MOST_BIDS];
        private int inLine;
        private int hats;
        private int taken;
        private int twice;
        private int price;
        private int owner;
        private int bids;

        Bidding(Room room) {
            this.room = room;
        }

        /** The buyers of a set come with full purses and sit down in their seats. */
        void gather(int set) {
            hats = 0;
            for (int b = 0; b < MOST_BUYERS; b++) {
                places[b] = AWAY;
                purses[b] = 0;
                Buyer buyer = room.buyerOf(b);
                if (buyer != null && isIn(set, b)) {
                    places[b] = buyer.seat;
                    purses[b] = buyer.purse;
                    hats |= buyer.wearsHat() ? 1 << b : 0;
                }
            }
        }

        void offer(int lot) {
            for (int b = 0; b < MOST_BUYERS; b++) {
                limits[b] = 0;
                Buyer buyer = room.buyerOf(b);
                if (buyer != null && places[b] != AWAY && isLot(lot)) {
                    limits[b] = buyer.limitBy(buyer.worths[lot], purses[b]);
                }
            }
        }

        /** Who has the limit 0 never bids: so the others of a ring hold back. */
        void silenceAllButFirst(int set) {
            int first = NONE;
            for (int b = 0; b < MOST_BUYERS; b++) {
                if (isIn(set, b) && (first == NONE || limits[b] > limits[first])) {
                    first = b;
                }
            }
            for (int b = 0; b < MOST_BUYERS; b++) {
                if (isIn(set, b) && b != first) {
                    limits[b] = 0;
                }
            }
        }

        void hold() {
            price = 0;
            owner = NONE;
            bids = 0;
            twice = room.seatsTwice();
            lineUp();
            for (int beat = 0; beat < MOST_BIDS; beat++) {
                int b = nextBidder();
                if (b == NONE) {
                    break;
                }
                takeBidOf(b);
            }
        }

        /** A sale that follows another one, and is paid for: its price. */
        int sellOn(int lot) {
            offer(lot);
            hold();
            if (owner != NONE) {
                purses[owner] -= price;
            }
            return price;
        }

        int bidOf(int k) {
            return k >= 0 && k < bids && k < MOST_BIDS ? told[k] : NONE;
        }

        /** Nobody ever passes another one by, so the line by seats holds for a whole sale. */
        private void lineUp() {
            inLine = 0;
            taken = 0;
            for (int b = 0; b < MOST_BUYERS; b++) {
                if (places[b] == AWAY) {
                    continue;
                }
                taken |= 1 << places[b];
                int at = inLine;
                while (at > 0 && places[line[at - 1]] > places[b]) {
                    line[at] = line[at - 1];
                    at--;
                }
                line[at] = b;
                inLine++;
            }
        }

        private int nextBidder() {
            for (int at = 0; at < inLine; at++) {
                int b = line[at];
                if (b != owner && price + riseBy(b) <= limits[b] && isSeen(b)) {
                    return b;
                }
            }
            return NONE;
        }

        private int riseBy(int b) {
            return isIn(twice, places[b]) ? 2 : 1;
        }

        private boolean isSeen(int b) {
            int ahead = places[b] - room.wide;
            return !isIn(hats, b) || ahead < 0 || !isIn(taken, ahead);
        }

        private void takeBidOf(int b) {
            price += riseBy(b);
            owner = b;
            if (bids < MOST_BIDS) {
                told[bids] = 100 * price + b;
                bids++;
            }
            int seat = places[b];
            if (!isIn(room.lastSeats, seat) && !isIn(taken, seat + 1)) {
                taken &= ~(1 << seat);
                taken |= 1 << (seat + 1);
                places[b] = seat + 1;
            }
        }
    }

    /** The readings: which lot made which price. */
    private static final class Clerk {
        private final int[] lots = new int[MOST_READINGS];
        private final int[] prices = new int[MOST_READINGS];
        private int count;

        void write(int lot, int price) {
            if (count < MOST_READINGS) {
                lots[count] = lot;
                prices[count] = price;
                count++;
            }
        }

        void keepOnly(int left) {
            count = left;
        }

        boolean hasOf(int lot) {
            for (int r = 0; r < count && r < MOST_READINGS; r++) {
                if (lots[r] == lot) {
                    return true;
                }
            }
            return false;
        }

        boolean agrees(int lot, int price) {
            for (int r = 0; r < count && r < MOST_READINGS; r++) {
                if (lots[r] == lot && prices[r] != price) {
                    return false;
                }
            }
            return true;
        }
    }

    /** A row of cells of a lane, or nothing; made once, the cells serve every row laid on it. */
    private static final class Sheet {
        private final int[] cells = new int[MOST_CELLS];
        private int lane = NOTHING;
        private int length;

        void lay(int newLane, int n) {
            lane = newLane;
            length = n;
            for (int i = 0; i < MOST_CELLS; i++) {
                cells[i] = 0;
            }
        }

        boolean holds(int i, int n) {
            return i >= 0 && i <= length && n <= length - i;
        }

        int faultOfTaking(int asLane, int i, int n) {
            if (lane == NOTHING) {
                return NULL;
            }
            if (lane != asLane) {
                return CAST;
            }
            if (n < 0) {
                return SIZE;
            }
            return holds(i, n) ? NO_FAULT : INDEX;
        }

        int at(int i) {
            return isBelow(i, length) && i < MOST_CELLS ? cells[i] : 0;
        }

        void write(int i, int v) {
            if (isBelow(i, length) && i < MOST_CELLS) {
                cells[i] = cut(v);
            }
        }

        private int cut(int v) {
            if (lane == 0) {
                return (byte) v;
            }
            return lane == 1 ? (short) v : v;
        }
    }
}
