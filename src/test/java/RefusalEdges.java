/**
 * The edges of the terms: every refusal and every fault of every call, without a hall and in one,
 * alone and with all that is told behind it, and that it changes nothing.
 */
final class RefusalEdges {
    private static final int NULL = 1, CAST = 2, INDEX = 3, SIZE = 4;
    private static final Twins BARE = Twins.bare();
    private static final Twins FULL = Twins.full();

    private RefusalEdges() {
    }

    static void run() {
        unknown();
        outside();
        state();
        full();
        firstInOrder();
        changeNothing();
        nulls();
        casts();
        indexes();
        sizes();
        firstFault();
        faultAnswers();
        none();
        sets();
        shares();
        hall();
        hallFaults();
        ofBuyer();
        worth();
        limit();
        sit();
        law();
        sale();
        bid();
        ends();
        row();
        rowFaults();
        gain();
        best();
        order();
        ring();
        mean();
        hangs();
        reading();
        back();
        values();
        places();
        sheet();
        lose();
        put();
        cell();
        copy();
        tellNod();
        as();
        many();
        mostCalls();
    }

    // ---- the terms

    private static void unknown() {
        Edge.of("Terms", "UNKNOWN (there is no such SEAT, BUYER, LOT, SHEET, place)");
        int[] far = {Check.LEAST, -2, -1, 6, 32, 255, Check.MOST};
        for (int no : far) {
            FULL.refused("seat " + no, x -> x.sit(0, no), Check.UNKNOWN);
            FULL.refused("buyer " + no, x -> x.sit(no, 0), Check.UNKNOWN);
            FULL.refused("lot " + no, x -> x.hangs(no), Check.UNKNOWN);
            FULL.refused("sheet " + no, x -> x.lose(no), Check.UNKNOWN);
        }
        FULL.refused("place -1", x -> x.bid(0, -1), Check.UNKNOWN);
        FULL.refused("place 4", x -> x.order(4), Check.UNKNOWN);
    }

    private static void outside() {
        Edge.of("Terms", "OUTSIDE (another number is not as told)");
        int[] far = {Check.LEAST, -1, 4, 32, 255, Check.MOST};
        for (int no : far) {
            FULL.refused("ofBuyer(0, " + no + ")", x -> x.ofBuyer(0, no), Check.OUTSIDE);
            FULL.refused("law(" + no + ")", x -> x.law(no), Check.OUTSIDE);
            FULL.refused("sale(0, " + no + ")", x -> x.sale(0, no), Check.OUTSIDE);
            FULL.refused("best(0, 0, " + no + ")", x -> x.best(0, 0, no), Check.OUTSIDE);
            FULL.refused("many(" + no + ")", x -> x.many(no), Check.OUTSIDE);
            FULL.refusedAheadOfFaults("as(0, " + no + ")", x -> x.as(0, no), Check.OUTSIDE);
        }
    }

    private static void state() {
        Edge.of("Terms", "STATE (as told), FULL");
        BARE.refused("law(0)", x -> x.law(0), Check.STATE);
        FULL.refused("sit(0, 4)", x -> x.sit(0, 4), Check.STATE);
    }

    private static void full() {
        Edge.of("Terms", "FULL");
        FULL.refused("a seventh reading", x -> x.reading(0, 0), Check.FULL);
    }

    private static void firstInOrder() {
        Edge.of("Terms", "of several the first in the order in which a call's line tells them");
        BARE.refused("reading: UNKNOWN, OUTSIDE, STATE", x -> x.reading(4, 100), Check.UNKNOWN);
        BARE.refused("reading: OUTSIDE, STATE", x -> x.reading(0, 100), Check.OUTSIDE);
        BARE.refused("reading: STATE", x -> x.reading(0, 99), Check.STATE);
        FULL.refused("reading: UNKNOWN, OUTSIDE, FULL", x -> x.reading(4, 100), Check.UNKNOWN);
        FULL.refused("reading: OUTSIDE, FULL", x -> x.reading(0, 100), Check.OUTSIDE);
        FULL.refused("reading: FULL", x -> x.reading(0, 99), Check.FULL);
    }

    private static void changeNothing() {
        Edge.of("Terms", "They change nothing (but fault(), of a call that names FAULTS)");
        FULL.refused("a call that names none", x -> x.worth(0, 0, 100), Check.OUTSIDE);
        FULL.refusedAheadOfFaults("a call that names some", x -> x.sheet(0, 0, 61), Check.OUTSIDE);
        BARE.refusedAheadOfFaults("row names some, STATE", x -> x.row(-1, 1, 1, 0, 1), Check.STATE);
    }

    private static void nulls() {
        Edge.of("Terms", "FAULTS are the machine's: 1 NULL (there is nothing)");
        BARE.faulty("put", x -> x.put(3, 0, 0), NULL);
        FULL.faulty("put", x -> x.put(3, 0, 0), NULL);
    }

    private static void casts() {
        Edge.of("Terms", "2 CAST (it is of another LANE, kind)");
        BARE.faultyAndLost("of another lane", x -> x.cell(1, 0, 2), CAST);
        FULL.faultyAndLost("of another lane", x -> x.cell(1, 0, 2), CAST);
        FULL.faulty("of another kind", x -> x.as(1, 2), CAST);
    }

    private static void indexes() {
        Edge.of("Terms", "3 INDEX (of cells from i on also where i is not 0 .. how many there are, if none of them is taken, too)");
        FULL.faulty("hall, none from -1 on", x -> x.hall(1, 1, -1, 0), INDEX);
        FULL.faulty("hall, none from 8 on", x -> x.hall(1, 1, 8, 0), INDEX);
        FULL.refusedAheadOfFaults("hall, none from 7 on", x -> x.hall(1, 1, 7, 0), -100);
        FULL.faulty("row, none from -1 on", x -> x.row(-1, 1, 1, -1, 0), INDEX);
        FULL.faulty("row, none from 8 on", x -> x.row(-1, 1, 1, 8, 0), INDEX);
        FULL.refusedAheadOfFaults("row, none from 7 on", x -> x.row(-1, 1, 1, 7, 0), 0);
        FULL.faulty("copy, none from -1 on", x -> x.copy(1, -1, 1, 0, 0), INDEX);
        FULL.faulty("copy, none from 8 on", x -> x.copy(1, 8, 1, 0, 0), INDEX);
        FULL.refusedAheadOfFaults("copy, none from 7 on", x -> x.copy(1, 7, 1, 7, 0), 0);
        FULL.faulty("of a row of none, from 1 on", x -> x.copy(2, 1, 2, 0, 0), INDEX);
        FULL.refusedAheadOfFaults("of a row of none, from 0 on", x -> x.copy(2, 0, 2, 0, 0), 0);
    }

    private static void sizes() {
        Edge.of("Terms", "4 SIZE (a length below 0)");
        FULL.faulty("sheet, -1", x -> x.sheet(1, 1, -1), SIZE);
        FULL.faulty("hall, -1", x -> x.hall(1, 1, 0, -1), SIZE);
        FULL.faulty("row, -1", x -> x.row(-1, 1, 1, 0, -1), SIZE);
        FULL.faulty("sheet, the least", x -> x.sheet(1, 1, Check.LEAST), SIZE);
        FULL.refusedAheadOfFaults("hall, 0", x -> x.hall(1, 1, 0, 0), -100);
    }

    private static void firstFault() {
        Edge.of("Terms", "Of a call the first that is come to, in the order told");
        FULL.faulty("hall: NULL, SIZE, INDEX", x -> x.hall(3, 1, -1, -1), NULL);
        FULL.faulty("hall: CAST, SIZE, INDEX", x -> x.hall(1, 0, -1, -1), CAST);
        FULL.faulty("hall: SIZE, INDEX", x -> x.hall(1, 1, -1, -1), SIZE);
        FULL.faulty("hall: INDEX, no text", x -> x.hall(1, 1, -1, 1), INDEX);
    }

    private static void faultAnswers() {
        Edge.of("Terms", "it answers -10 less it (LOST, where a long is answered, as for refusals) and changes nothing");
        FULL.refusedAheadOfFaults("a long, refused", x -> x.cell(4, 0, 0), Check.LOST);
        FULL.faultyAndLost("a long, NULL", x -> x.cell(3, 0, 0), NULL);
        FULL.faultyAndLost("a long, CAST", x -> x.cell(0, 0, 0), CAST);
        FULL.faultyAndLost("a long, INDEX", x -> x.cell(0, 15, 2), INDEX);
        Edge.of("Terms", "fault() tells it");
        FULL.faulty("-11", x -> x.copy(3, 0, 0, 0, 0), NULL);
        FULL.faulty("-12", x -> x.copy(0, 0, 1, 0, 0), CAST);
        FULL.faulty("-13", x -> x.copy(0, 0, 0, 0, 16), INDEX);
        FULL.faulty("-14", x -> x.sheet(0, 0, -1), SIZE);
    }

    private static void none() {
        Edge.of("Terms", "NONE is -9");
        DeafAuction x = Check.in("a12;b10;b10");
        Edge.due("nobody has it", x.sale(0, 1), -9);
        Edge.due("no bid", x.bid(0, 0), -9);
        Edge.due("no value", x.values(0, 0, 100), -9);
        Edge.due("the constant", DeafAuction.NONE, -9);
    }

    private static void sets() {
        Edge.of("Terms", "Sets are told as bits (bit k for number k)");
        DeafAuction x = Check.in("a23;b10;b10;b10;b10;b10;b10");
        for (int b = 0; b < 6; b++) {
            Edge.due("places of " + b, x.places(b), 1 << b);
            x.worth(b, 0, 10);
            Edge.due("hangs on " + b, x.hangs(0), 1 << b);
            x.worth(b, 0, 0);
        }
        Check.worths(x, 0, 0, 0, 9, 0, 0, 9);
        int free = x.ring(0, 0);
        for (int set = 0; set < 64; set++) {
            // Just where both who would bid are in the ring does one of them hold back.
            boolean both = (set & 4) != 0 && (set & 32) != 0;
            Edge.due("ring " + set, x.ring(set, 0) == free ? 0 : 1, both ? 1 : 0);
        }
    }

    private static void shares() {
        Edge.of("Terms", "Shares are told as upper and lower number (above 0) in least terms");
        DeafAuction x = Check.in("a16;b20;b20;b20;b20;b20;b20");
        x.law(2);
        Edge.due("nothing: upper", x.mean(0, 0), 0);
        Edge.due("nothing: lower", x.mean(0, 1), 1);
        // The price is 1 if one of the first count comes: 2^count less 1 of 2^count sets.
        for (int count = 1; count <= 6; count++) {
            x.worth(count - 1, 0, 1);
            Edge.due(count + " would bid 1: upper", x.mean(0, 0), (1 << count) - 1);
            Edge.due(count + " would bid 1: lower", x.mean(0, 1), 1 << count);
        }
    }

    // ---- 1 the hall

    private static void hall() {
        for (Twins twins : new Twins[] {BARE, FULL}) {
            Edge.of("Promise 2", "UNKNOWN");
            twins.refusedAheadOfFaults("sheet 4", x -> x.hall(4, 1, 0, 0), Check.UNKNOWN);
            twins.refusedAheadOfFaults("sheet -1", x -> x.hall(-1, 1, 0, 0), Check.UNKNOWN);
            twins.refusedAheadOfFaults("sheet 4, all else", x -> x.hall(4, 3, -1, -1), Check.UNKNOWN);
            Edge.of("Promise 2", "OUTSIDE: lane");
            twins.refusedAheadOfFaults("lane 3", x -> x.hall(1, 3, 0, 0), Check.OUTSIDE);
            twins.refusedAheadOfFaults("lane -1", x -> x.hall(1, -1, 0, 0), Check.OUTSIDE);
            twins.refusedAheadOfFaults("lane 3, all else", x -> x.hall(3, 3, -1, -1), Check.OUTSIDE);
            Edge.of("Promise 2", "-100 less it");
            twins.refusedAheadOfFaults("no text", x -> x.hall(1, 1, 0, 3), -100);
        }
        FULL.refusedAheadOfFaults("of a text all but the last code", x -> x.hall(0, 2, 0, 14), -114);
        FULL.refusedAheadOfFaults("of a row of none", x -> x.hall(2, 0, 0, 0), -100);
    }

    private static void hallFaults() {
        for (Twins twins : new Twins[] {BARE, FULL}) {
            Edge.of("Promise 2", "CAST (nothing is no CAST)");
            twins.faulty("shorts as bytes", x -> x.hall(1, 0, 0, 0), CAST);
            twins.faulty("shorts as ints, all else", x -> x.hall(1, 2, -1, -1), CAST);
            Edge.of("Promise 2", "NULL");
            for (int lane = 0; lane < 3; lane++) {
                int as = lane;
                twins.faulty("nothing as lane " + as, x -> x.hall(3, as, 0, 0), NULL);
                twins.faulty("nothing as lane " + as + ", all else", x -> x.hall(3, as, -1, -1), NULL);
            }
            Edge.of("Promise 2", "SIZE: n below 0");
            twins.faulty("n -1", x -> x.hall(1, 1, 0, -1), SIZE);
            twins.faulty("n -1, i below 0", x -> x.hall(1, 1, -1, -1), SIZE);
            twins.faulty("the least n, i beyond", x -> x.hall(1, 1, 9, Check.LEAST), SIZE);
            Edge.of("Promise 2", "INDEX");
            twins.faulty("i -1", x -> x.hall(1, 1, -1, 1), INDEX);
            twins.faulty("i far beyond", x -> x.hall(1, 1, 8, 1), INDEX);
            twins.faulty("n beyond", x -> x.hall(1, 1, 0, 8), INDEX);
            twins.faulty("n far beyond", x -> x.hall(1, 1, 1, Check.MOST), INDEX);
            twins.faulty("i and n wrap around", x -> x.hall(1, 1, Check.MOST, Check.MOST), INDEX);
            twins.faulty("the least i", x -> x.hall(1, 1, Check.LEAST, 0), INDEX);
        }
    }

    private static void ofBuyer() {
        Edge.of("Promise 3", "UNKNOWN");
        BARE.refused("no hall", x -> x.ofBuyer(0, 0), Check.UNKNOWN);
        BARE.refused("no hall, what 4", x -> x.ofBuyer(0, 4), Check.UNKNOWN);
        FULL.refused("buyer 3", x -> x.ofBuyer(3, 0), Check.UNKNOWN);
        FULL.refused("buyer -1", x -> x.ofBuyer(-1, 0), Check.UNKNOWN);
        FULL.refused("buyer 3, what 4", x -> x.ofBuyer(3, 4), Check.UNKNOWN);
        Edge.of("Promise 3", "OUTSIDE");
        FULL.refused("what 4", x -> x.ofBuyer(0, 4), Check.OUTSIDE);
        FULL.refused("what -1", x -> x.ofBuyer(0, -1), Check.OUTSIDE);
    }

    private static void worth() {
        Edge.of("Promise 4", "UNKNOWN");
        BARE.refused("no hall", x -> x.worth(0, 0, 0), Check.UNKNOWN);
        BARE.refused("no hall, all else", x -> x.worth(0, 4, 100), Check.UNKNOWN);
        FULL.refused("buyer 3", x -> x.worth(3, 0, 5), Check.UNKNOWN);
        FULL.refused("buyer -1", x -> x.worth(-1, 0, 5), Check.UNKNOWN);
        FULL.refused("lot 4", x -> x.worth(0, 4, 5), Check.UNKNOWN);
        FULL.refused("lot -1", x -> x.worth(0, -1, 5), Check.UNKNOWN);
        FULL.refused("buyer 3, v 100", x -> x.worth(3, 0, 100), Check.UNKNOWN);
        FULL.refused("lot 4, v -1", x -> x.worth(0, 4, -1), Check.UNKNOWN);
        Edge.of("Promise 4", "OUTSIDE: 0 .. 99");
        FULL.refused("v 100", x -> x.worth(0, 0, 100), Check.OUTSIDE);
        FULL.refused("v -1", x -> x.worth(0, 0, -1), Check.OUTSIDE);
    }

    private static void limit() {
        Edge.of("Promise 5", "UNKNOWN");
        BARE.refused("no hall", x -> x.limit(0, 0), Check.UNKNOWN);
        FULL.refused("buyer 3", x -> x.limit(3, 0), Check.UNKNOWN);
        FULL.refused("buyer -1", x -> x.limit(-1, 0), Check.UNKNOWN);
        FULL.refused("lot 4", x -> x.limit(0, 4), Check.UNKNOWN);
        FULL.refused("lot -1", x -> x.limit(0, -1), Check.UNKNOWN);
    }

    private static void sit() {
        Edge.of("Promise 6", "UNKNOWN");
        BARE.refused("no hall", x -> x.sit(0, 0), Check.UNKNOWN);
        FULL.refused("buyer 3", x -> x.sit(3, 5), Check.UNKNOWN);
        FULL.refused("buyer -1", x -> x.sit(-1, 5), Check.UNKNOWN);
        FULL.refused("seat 6", x -> x.sit(0, 6), Check.UNKNOWN);
        FULL.refused("seat -1", x -> x.sit(0, -1), Check.UNKNOWN);
        FULL.refused("buyer 3, where another one sits", x -> x.sit(3, 0), Check.UNKNOWN);
        Edge.of("Promise 6", "STATE: another one sits there");
        FULL.refused("0 where 2 sits", x -> x.sit(0, 4), Check.STATE);
        FULL.refused("2 where 0 sits", x -> x.sit(2, 0), Check.STATE);
    }

    private static void law() {
        Edge.of("Promise 7", "OUTSIDE");
        BARE.refused("no hall, 3", x -> x.law(3), Check.OUTSIDE);
        BARE.refused("no hall, -1", x -> x.law(-1), Check.OUTSIDE);
        FULL.refused("3", x -> x.law(3), Check.OUTSIDE);
        FULL.refused("-1", x -> x.law(-1), Check.OUTSIDE);
        Edge.of("Promise 7", "STATE: there is no HALL");
        BARE.refused("no hall, 0", x -> x.law(0), Check.STATE);
        BARE.refused("no hall, 2", x -> x.law(2), Check.STATE);
    }

    // ---- 2 sales

    private static void sale() {
        Edge.of("Promise 8", "UNKNOWN");
        BARE.refused("no hall, lot 4, what 3", x -> x.sale(4, 3), Check.UNKNOWN);
        FULL.refused("lot 4", x -> x.sale(4, 0), Check.UNKNOWN);
        FULL.refused("lot -1", x -> x.sale(-1, 0), Check.UNKNOWN);
        FULL.refused("lot 4, what 3", x -> x.sale(4, 3), Check.UNKNOWN);
        Edge.of("Promise 8", "OUTSIDE");
        BARE.refused("no hall, what 3", x -> x.sale(0, 3), Check.OUTSIDE);
        FULL.refused("what 3", x -> x.sale(0, 3), Check.OUTSIDE);
        FULL.refused("what -1", x -> x.sale(0, -1), Check.OUTSIDE);
        Edge.of("Promise 8", "STATE: there is no HALL");
        BARE.refused("no hall", x -> x.sale(3, 2), Check.STATE);
    }

    private static void bid() {
        Edge.of("Promise 9", "UNKNOWN: LOT, k below 0");
        BARE.refused("no hall, lot 4", x -> x.bid(4, 0), Check.UNKNOWN);
        BARE.refused("no hall, k -1", x -> x.bid(0, -1), Check.UNKNOWN);
        FULL.refused("lot 4", x -> x.bid(4, 0), Check.UNKNOWN);
        FULL.refused("lot -1", x -> x.bid(-1, 0), Check.UNKNOWN);
        FULL.refused("k -1", x -> x.bid(0, -1), Check.UNKNOWN);
        FULL.refused("the least k", x -> x.bid(0, Check.LEAST), Check.UNKNOWN);
        Edge.of("Promise 9", "STATE: there is no HALL");
        BARE.refused("no hall", x -> x.bid(0, 0), Check.STATE);
        BARE.refused("no hall, the most k", x -> x.bid(3, Check.MOST), Check.STATE);
        Edge.of("Promise 9", "NONE: there are fewer");
        FULL.refused("the most k", x -> x.bid(3, Check.MOST), Check.NONE);
    }

    private static void ends() {
        Edge.of("Promise 10", "UNKNOWN");
        BARE.refused("no hall", x -> x.ends(0, 0), Check.UNKNOWN);
        FULL.refused("buyer 3", x -> x.ends(3, 0), Check.UNKNOWN);
        FULL.refused("buyer -1", x -> x.ends(-1, 0), Check.UNKNOWN);
        FULL.refused("lot 4", x -> x.ends(0, 4), Check.UNKNOWN);
        FULL.refused("lot -1", x -> x.ends(0, -1), Check.UNKNOWN);
    }

    private static void row() {
        Edge.of("Promise 11", "UNKNOWN: b is not -1, no BUYER");
        BARE.refusedAheadOfFaults("no hall, buyer 0", x -> x.row(0, 1, 1, 0, 2), Check.UNKNOWN);
        BARE.refusedAheadOfFaults("no hall, buyer 0, all else", x -> x.row(0, 1, 3, -1, -1), Check.UNKNOWN);
        FULL.refusedAheadOfFaults("buyer 3", x -> x.row(3, 1, 1, 0, 2), Check.UNKNOWN);
        FULL.refusedAheadOfFaults("buyer -2", x -> x.row(-2, 1, 1, 0, 2), Check.UNKNOWN);
        FULL.refusedAheadOfFaults("buyer 3, all else", x -> x.row(3, 4, 3, -1, -1), Check.UNKNOWN);
        Edge.of("Promise 11", "SHEET");
        FULL.refusedAheadOfFaults("sheet 4", x -> x.row(-1, 4, 1, 0, 2), Check.UNKNOWN);
        FULL.refusedAheadOfFaults("sheet -1", x -> x.row(-1, -1, 1, 0, 2), Check.UNKNOWN);
        FULL.refusedAheadOfFaults("sheet 4, all else", x -> x.row(0, 4, 3, -1, -1), Check.UNKNOWN);
        BARE.refusedAheadOfFaults("no hall, sheet 4, lane 3", x -> x.row(-1, 4, 3, 0, 2), Check.UNKNOWN);
        Edge.of("Promise 11", "OUTSIDE: lane");
        FULL.refusedAheadOfFaults("lane 3", x -> x.row(-1, 1, 3, 0, 2), Check.OUTSIDE);
        FULL.refusedAheadOfFaults("lane -1", x -> x.row(-1, 1, -1, 0, 2), Check.OUTSIDE);
        FULL.refusedAheadOfFaults("lane 3, all else", x -> x.row(-1, 3, 3, -1, -1), Check.OUTSIDE);
        BARE.refusedAheadOfFaults("no hall, lane 3", x -> x.row(-1, 1, 3, 0, 2), Check.OUTSIDE);
        Edge.of("Promise 11", "STATE: there is no HALL");
        BARE.refusedAheadOfFaults("no hall", x -> x.row(-1, 1, 1, 0, 2), Check.STATE);
        BARE.refusedAheadOfFaults("no hall, CAST", x -> x.row(-1, 1, 2, -1, -1), Check.STATE);
        BARE.refusedAheadOfFaults("no hall, NULL", x -> x.row(-1, 3, 1, -1, -1), Check.STATE);
        Edge.of("Promise 11", "UNKNOWN: a LOT (one told twice: so, too)");
        FULL.refusedAheadOfFaults("lot 4", x -> x.row(-1, 1, 1, 4, 1), Check.UNKNOWN);
        FULL.refusedAheadOfFaults("lot -1", x -> x.row(0, 1, 1, 5, 1), Check.UNKNOWN);
        FULL.refusedAheadOfFaults("lot 1 twice", x -> x.row(0, 1, 1, 0, 4), Check.UNKNOWN);
        FULL.refusedAheadOfFaults("not beyond it", x -> x.row(-1, 2, 0, 0, 0), 0);
    }

    private static void rowFaults() {
        Edge.of("Promise 11", "CAST");
        FULL.faulty("shorts as bytes", x -> x.row(-1, 1, 0, 0, 2), CAST);
        FULL.faulty("shorts as ints, all else", x -> x.row(0, 1, 2, -1, -1), CAST);
        Edge.of("Promise 11", "NULL");
        for (int lane = 0; lane < 3; lane++) {
            int as = lane;
            FULL.faulty("nothing as lane " + as, x -> x.row(-1, 3, as, 0, 0), NULL);
            FULL.faulty("nothing as lane " + as + ", all else", x -> x.row(0, 3, as, -1, -1), NULL);
        }
        Edge.of("Promise 11", "SIZE");
        FULL.faulty("n -1", x -> x.row(-1, 1, 1, 0, -1), SIZE);
        FULL.faulty("n -1, i -1", x -> x.row(0, 1, 1, -1, -1), SIZE);
        FULL.faulty("the least n", x -> x.row(0, 1, 1, 0, Check.LEAST), SIZE);
        Edge.of("Promise 11", "INDEX");
        FULL.faulty("i -1", x -> x.row(-1, 1, 1, -1, 1), INDEX);
        FULL.faulty("i beyond", x -> x.row(-1, 1, 1, 8, 0), INDEX);
        FULL.faulty("n beyond, and no lots", x -> x.row(-1, 1, 1, 4, 4), INDEX);
        FULL.faulty("n far beyond", x -> x.row(-1, 1, 1, 1, Check.MOST), INDEX);
        FULL.faulty("i and n wrap around", x -> x.row(0, 1, 1, Check.MOST, Check.MOST), INDEX);
        FULL.faulty("the least i", x -> x.row(0, 1, 1, Check.LEAST, 0), INDEX);
    }

    // ---- 3 seats, orders, rings

    private static void gain() {
        Edge.of("Promise 12", "UNKNOWN");
        BARE.refused("no hall", x -> x.gain(0, 0), Check.UNKNOWN);
        FULL.refused("buyer 3", x -> x.gain(3, 0), Check.UNKNOWN);
        FULL.refused("buyer -1", x -> x.gain(-1, 0), Check.UNKNOWN);
        FULL.refused("lot 4", x -> x.gain(0, 4), Check.UNKNOWN);
        FULL.refused("lot -1", x -> x.gain(0, -1), Check.UNKNOWN);
    }

    private static void best() {
        Edge.of("Promise 13", "UNKNOWN");
        BARE.refused("no hall", x -> x.best(0, 0, 0), Check.UNKNOWN);
        BARE.refused("no hall, what 2", x -> x.best(0, 0, 2), Check.UNKNOWN);
        FULL.refused("buyer 3", x -> x.best(3, 0, 0), Check.UNKNOWN);
        FULL.refused("buyer -1", x -> x.best(-1, 0, 0), Check.UNKNOWN);
        FULL.refused("lot 4", x -> x.best(0, 4, 0), Check.UNKNOWN);
        FULL.refused("lot -1", x -> x.best(0, -1, 0), Check.UNKNOWN);
        FULL.refused("buyer 3, what 2", x -> x.best(3, 0, 2), Check.UNKNOWN);
        FULL.refused("lot 4, what 2", x -> x.best(0, 4, 2), Check.UNKNOWN);
        Edge.of("Promise 13", "OUTSIDE");
        FULL.refused("what 2", x -> x.best(0, 0, 2), Check.OUTSIDE);
        FULL.refused("what -1", x -> x.best(0, 0, -1), Check.OUTSIDE);
    }

    private static void order() {
        Edge.of("Promise 14", "UNKNOWN: q is not -1 .. 3");
        BARE.refused("no hall, 4", x -> x.order(4), Check.UNKNOWN);
        BARE.refused("no hall, -2", x -> x.order(-2), Check.UNKNOWN);
        FULL.refused("4", x -> x.order(4), Check.UNKNOWN);
        FULL.refused("-2", x -> x.order(-2), Check.UNKNOWN);
        FULL.refused("the most", x -> x.order(Check.MOST), Check.UNKNOWN);
        FULL.refused("the least", x -> x.order(Check.LEAST), Check.UNKNOWN);
        Edge.of("Promise 14", "STATE: there is no HALL");
        BARE.refused("no hall, -1", x -> x.order(-1), Check.STATE);
        BARE.refused("no hall, 3", x -> x.order(3), Check.STATE);
    }

    private static void ring() {
        Edge.of("Promise 15", "UNKNOWN: LOT");
        BARE.refused("no hall, lot 4, a bit", x -> x.ring(1, 4), Check.UNKNOWN);
        FULL.refused("lot 4", x -> x.ring(7, 4), Check.UNKNOWN);
        FULL.refused("lot -1", x -> x.ring(7, -1), Check.UNKNOWN);
        FULL.refused("lot 4, bit 3", x -> x.ring(8, 4), Check.UNKNOWN);
        Edge.of("Promise 15", "OUTSIDE: a bit of no BUYER");
        BARE.refused("no hall, bit 0", x -> x.ring(1, 0), Check.OUTSIDE);
        FULL.refused("bit 3", x -> x.ring(8, 0), Check.OUTSIDE);
        FULL.refused("bit 3 and all buyers", x -> x.ring(15, 0), Check.OUTSIDE);
        FULL.refused("bit 31", x -> x.ring(Check.LEAST, 0), Check.OUTSIDE);
        Edge.of("Promise 15", "STATE: there is no HALL");
        BARE.refused("no hall, no bit", x -> x.ring(0, 0), Check.STATE);
    }

    private static void mean() {
        Edge.of("Promise 16", "LOST: UNKNOWN: LOT");
        BARE.refused("no hall, lot 4, which 2", x -> x.mean(4, 2), Check.LOST);
        FULL.refused("lot 4", x -> x.mean(4, 0), Check.LOST);
        FULL.refused("lot -1", x -> x.mean(-1, 1), Check.LOST);
        Edge.of("Promise 16", "OUTSIDE");
        BARE.refused("no hall, which 2", x -> x.mean(0, 2), Check.LOST);
        FULL.refused("which 2", x -> x.mean(0, 2), Check.LOST);
        FULL.refused("which -1", x -> x.mean(0, -1), Check.LOST);
        Edge.of("Promise 16", "STATE: there is no HALL");
        BARE.refused("no hall, the upper", x -> x.mean(0, 0), Check.LOST);
        BARE.refused("no hall, the lower", x -> x.mean(3, 1), Check.LOST);
    }

    private static void hangs() {
        Edge.of("Promise 17", "UNKNOWN: LOT");
        BARE.refused("no hall, lot 4", x -> x.hangs(4), Check.UNKNOWN);
        FULL.refused("lot 4", x -> x.hangs(4), Check.UNKNOWN);
        FULL.refused("lot -1", x -> x.hangs(-1), Check.UNKNOWN);
        Edge.of("Promise 17", "STATE: there is no HALL");
        BARE.refused("no hall, lot 0", x -> x.hangs(0), Check.STATE);
        BARE.refused("no hall, lot 3", x -> x.hangs(3), Check.STATE);
    }

    // ---- 4 what a clerk wrote

    private static void reading() {
        Edge.of("Promise 18", "UNKNOWN: LOT");
        BARE.refused("no hall, lot 4", x -> x.reading(4, 0), Check.UNKNOWN);
        FULL.refused("lot -1", x -> x.reading(-1, 0), Check.UNKNOWN);
        FULL.refused("lot 4, price 100, one too many", x -> x.reading(4, 100), Check.UNKNOWN);
        Edge.of("Promise 18", "OUTSIDE: price (0 .. 99)");
        BARE.refused("no hall, price 100", x -> x.reading(0, 100), Check.OUTSIDE);
        BARE.refused("no hall, price -1", x -> x.reading(0, -1), Check.OUTSIDE);
        FULL.refused("price 100, one too many", x -> x.reading(0, 100), Check.OUTSIDE);
        Edge.of("Promise 18", "STATE: there is no HALL");
        BARE.refused("no hall, price 0", x -> x.reading(0, 0), Check.STATE);
        BARE.refused("no hall, price 99", x -> x.reading(3, 99), Check.STATE);
        Edge.of("Promise 18", "FULL");
        FULL.refused("one too many", x -> x.reading(3, 99), Check.FULL);
    }

    private static void back() {
        Edge.of("Promise 19", "OUTSIDE");
        BARE.refused("no hall, 1", x -> x.back(1), Check.OUTSIDE);
        BARE.refused("no hall, -1", x -> x.back(-1), Check.OUTSIDE);
        FULL.refused("7", x -> x.back(7), Check.OUTSIDE);
        FULL.refused("-1", x -> x.back(-1), Check.OUTSIDE);
        FULL.refused("the most", x -> x.back(Check.MOST), Check.OUTSIDE);
        FULL.refused("the least", x -> x.back(Check.LEAST), Check.OUTSIDE);
        Edge.of("Promise 19", "The last k READINGS (0 .. as many as there are)");
        BARE.refused("no hall, 0", x -> x.back(0), 0);
        FULL.refused("0 takes none back", x -> x.back(0), 6);
    }

    private static void values() {
        Edge.of("Promise 20", "UNKNOWN: BUYER, LOT, k below -1");
        BARE.refused("no hall", x -> x.values(0, 0, -1), Check.UNKNOWN);
        FULL.refused("buyer 3", x -> x.values(3, 0, -1), Check.UNKNOWN);
        FULL.refused("buyer -1", x -> x.values(-1, 0, -1), Check.UNKNOWN);
        FULL.refused("lot 4", x -> x.values(0, 4, -1), Check.UNKNOWN);
        FULL.refused("lot -1", x -> x.values(0, -1, -1), Check.UNKNOWN);
        FULL.refused("k -2", x -> x.values(0, 0, -2), Check.UNKNOWN);
        FULL.refused("the least k", x -> x.values(0, 0, Check.LEAST), Check.UNKNOWN);
        Edge.of("Promise 20", "NONE: there are fewer");
        FULL.refused("the most k", x -> x.values(0, 0, Check.MOST), Check.NONE);
    }

    private static void places() {
        Edge.of("Promise 21", "UNKNOWN");
        BARE.refused("no hall", x -> x.places(0), Check.UNKNOWN);
        FULL.refused("buyer 3", x -> x.places(3), Check.UNKNOWN);
        FULL.refused("buyer -1", x -> x.places(-1), Check.UNKNOWN);
    }

    // ---- 5 sheets, parts

    private static void sheet() {
        for (Twins twins : new Twins[] {BARE, FULL}) {
            Edge.of("Promise 22", "UNKNOWN");
            twins.refusedAheadOfFaults("sheet 4", x -> x.sheet(4, 0, 1), Check.UNKNOWN);
            twins.refusedAheadOfFaults("sheet -1", x -> x.sheet(-1, 0, 1), Check.UNKNOWN);
            twins.refusedAheadOfFaults("sheet 4, lane 3, n 61", x -> x.sheet(4, 3, 61), Check.UNKNOWN);
            twins.refusedAheadOfFaults("sheet 4, n -1", x -> x.sheet(4, 0, -1), Check.UNKNOWN);
            Edge.of("Promise 22", "OUTSIDE: lane, n above 60");
            twins.refusedAheadOfFaults("lane 3", x -> x.sheet(1, 3, 1), Check.OUTSIDE);
            twins.refusedAheadOfFaults("lane -1", x -> x.sheet(1, -1, 1), Check.OUTSIDE);
            twins.refusedAheadOfFaults("lane 3, n -1", x -> x.sheet(1, 3, -1), Check.OUTSIDE);
            twins.refusedAheadOfFaults("n 61", x -> x.sheet(1, 1, 61), Check.OUTSIDE);
            Edge.of("Promise 22", "SIZE");
            twins.faulty("n -1", x -> x.sheet(1, 1, -1), SIZE);
            twins.faulty("n -1, nothing there", x -> x.sheet(3, 1, -1), SIZE);
        }
    }

    private static void lose() {
        Edge.of("Promise 23", "UNKNOWN");
        FULL.refused("sheet 4", x -> x.lose(4), Check.UNKNOWN);
        FULL.refused("sheet -1", x -> x.lose(-1), Check.UNKNOWN);
        Edge.of("Promise 23", "0: it had nothing");
        FULL.refused("sheet 3", x -> x.lose(3), 0);
    }

    private static void put() {
        Edge.of("Promise 24", "UNKNOWN");
        FULL.refusedAheadOfFaults("sheet 4", x -> x.put(4, 0, 0), Check.UNKNOWN);
        FULL.refusedAheadOfFaults("sheet -1, i -1", x -> x.put(-1, -1, 0), Check.UNKNOWN);
        Edge.of("Promise 24", "NULL");
        FULL.faulty("nothing", x -> x.put(3, 0, 5), NULL);
        FULL.faulty("nothing, i -1", x -> x.put(3, -1, 5), NULL);
        Edge.of("Promise 24", "INDEX");
        FULL.faulty("i -1", x -> x.put(1, -1, 5), INDEX);
        FULL.faulty("i 7", x -> x.put(1, 7, 5), INDEX);
        FULL.faulty("the most i", x -> x.put(1, Check.MOST, 5), INDEX);
        FULL.faulty("the least i", x -> x.put(1, Check.LEAST, 5), INDEX);
        FULL.faulty("of none, i 0", x -> x.put(2, 0, 5), INDEX);
    }

    private static void cell() {
        Edge.of("Promise 25", "LOST: UNKNOWN, OUTSIDE: lane");
        FULL.refusedAheadOfFaults("sheet 4", x -> x.cell(4, 0, 0), Check.LOST);
        FULL.refusedAheadOfFaults("sheet -1", x -> x.cell(-1, 0, 0), Check.LOST);
        FULL.refusedAheadOfFaults("lane 3", x -> x.cell(1, 0, 3), Check.LOST);
        FULL.refusedAheadOfFaults("lane -1", x -> x.cell(1, 0, -1), Check.LOST);
        FULL.refusedAheadOfFaults("lane 3, nothing, i -1", x -> x.cell(3, -1, 3), Check.LOST);
        Edge.of("Promise 25", "FAULTS CAST (nothing is no CAST), NULL, INDEX");
        FULL.faultyAndLost("another lane, i -1", x -> x.cell(1, -1, 0), CAST);
        FULL.faultyAndLost("nothing, i -1", x -> x.cell(3, -1, 0), NULL);
        FULL.faultyAndLost("i -1", x -> x.cell(1, -1, 1), INDEX);
        FULL.faultyAndLost("i 7", x -> x.cell(1, 7, 1), INDEX);
        FULL.faultyAndLost("the most i", x -> x.cell(1, Check.MOST, 1), INDEX);
        FULL.faultyAndLost("the least i", x -> x.cell(1, Check.LEAST, 1), INDEX);
        FULL.faultyAndLost("of none, i 0", x -> x.cell(2, 0, 0), INDEX);
    }

    private static void copy() {
        Edge.of("Promise 26", "UNKNOWN");
        FULL.refusedAheadOfFaults("sheet 4", x -> x.copy(4, 0, 0, 0, 0), Check.UNKNOWN);
        FULL.refusedAheadOfFaults("sheet -1", x -> x.copy(-1, 0, 0, 0, 0), Check.UNKNOWN);
        FULL.refusedAheadOfFaults("the other 4", x -> x.copy(0, 0, 4, 0, 0), Check.UNKNOWN);
        FULL.refusedAheadOfFaults("the other -1", x -> x.copy(0, 0, -1, 0, 0), Check.UNKNOWN);
        FULL.refusedAheadOfFaults("the other 4, nothing", x -> x.copy(3, -1, 4, -1, -1), Check.UNKNOWN);
        Edge.of("Promise 26", "FAULTS NULL (the first, the other)");
        FULL.faulty("the first, i -1", x -> x.copy(3, -1, 0, -1, -1), NULL);
        FULL.faulty("the other, i -1", x -> x.copy(0, -1, 3, -1, -1), NULL);
        Edge.of("Promise 26", "CAST (unlike LANES)");
        FULL.faulty("ints to shorts, i -1", x -> x.copy(0, -1, 1, -1, -1), CAST);
        FULL.faulty("shorts to bytes, none", x -> x.copy(1, 0, 2, 0, 0), CAST);
        Edge.of("Promise 26", "INDEX: i, j, n below 0 or beyond");
        FULL.faulty("i -1", x -> x.copy(1, -1, 1, 0, 1), INDEX);
        FULL.faulty("j -1", x -> x.copy(1, 0, 1, -1, 1), INDEX);
        FULL.faulty("n -1", x -> x.copy(1, 0, 1, 0, -1), INDEX);
        FULL.faulty("i 8", x -> x.copy(1, 8, 1, 0, 0), INDEX);
        FULL.faulty("j 8", x -> x.copy(1, 0, 1, 8, 0), INDEX);
        FULL.faulty("n 8", x -> x.copy(1, 0, 1, 0, 8), INDEX);
        FULL.faulty("n beyond the end, a part would fit", x -> x.copy(1, 0, 1, 1, 7), INDEX);
    }

    private static void tellNod() {
        Edge.of("Promise 27", "UNKNOWN");
        BARE.refused("no hall", x -> x.tell(0), Check.UNKNOWN);
        FULL.refused("buyer 3", x -> x.tell(3), Check.UNKNOWN);
        FULL.refused("buyer -1", x -> x.tell(-1), Check.UNKNOWN);
        Edge.of("Promise 28", "UNKNOWN");
        BARE.refused("no hall", x -> x.nod(0), Check.UNKNOWN);
        FULL.refused("buyer 3", x -> x.nod(3), Check.UNKNOWN);
        FULL.refused("buyer -1", x -> x.nod(-1), Check.UNKNOWN);
    }

    private static void as() {
        Edge.of("Promise 29", "UNKNOWN");
        BARE.refusedAheadOfFaults("no hall", x -> x.as(0, 0), Check.UNKNOWN);
        BARE.refusedAheadOfFaults("no hall, kind 3", x -> x.as(0, 3), Check.UNKNOWN);
        FULL.refusedAheadOfFaults("buyer 3", x -> x.as(3, 0), Check.UNKNOWN);
        FULL.refusedAheadOfFaults("buyer -1, kind 3", x -> x.as(-1, 3), Check.UNKNOWN);
        Edge.of("Promise 29", "OUTSIDE");
        FULL.refusedAheadOfFaults("kind 3", x -> x.as(0, 3), Check.OUTSIDE);
        FULL.refusedAheadOfFaults("kind -1", x -> x.as(2, -1), Check.OUTSIDE);
        Edge.of("Promise 29", "CAST: it is none");
        FULL.faulty("b as h", x -> x.as(0, 1), CAST);
        FULL.faulty("b as n", x -> x.as(0, 2), CAST);
        FULL.faulty("h as n", x -> x.as(1, 2), CAST);
    }

    private static void many() {
        Edge.of("Promise 32", "OUTSIDE");
        BARE.refused("no hall, 4", x -> x.many(4), Check.OUTSIDE);
        BARE.refused("no hall, -1", x -> x.many(-1), Check.OUTSIDE);
        FULL.refused("4", x -> x.many(4), Check.OUTSIDE);
        FULL.refused("-1", x -> x.many(-1), Check.OUTSIDE);
    }

    private static void mostCalls() {
        Edge.of("What it is", "An object is used for at most 512 calls after it has been made");
        DeafAuction x = Check.in("a46;n99;n99;n99;n99;n99;n99");
        // 28 calls put the text on its sheet, the 29th took it.
        int trace = 0;
        for (int call = 30; call < 511; call++) {
            Edge.due("call " + call, x.tell(5), 298);
            trace = 31 * (31 * (31 * (31 * trace + 3) + 2) + 1) + 1;
        }
        Edge.due("call 511", x.hall(0, 2, 0, 27), 6);
        Edge.due("call 512", x.trace(), trace);
    }
}
