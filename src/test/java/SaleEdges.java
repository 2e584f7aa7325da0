/** The edges of text 2 and of promises 8 to 11, each by a test of its own, on new objects. */
final class SaleEdges {
    private SaleEdges() {
    }

    static void run() {
        nobodyBids();
        ownerDoesNotBidAgain();
        leastSeat();
        riseFromSeatBeforeMove();
        endOfRow();
        takenSeat();
        seatLeftFree();
        moverTakesSeat();
        moverHides();
        saleIsOver();
        seenBuyer();
        seenHatted();
        seenByColumn();
        everyHatCounts();
        goesSoFar();
        limitOfBuyer();
        limitOfNervous();
        rowPays();
        rowSpendsAll();
        rowOfNervous();
        rowSeats();
        saleAnswers();
        longestSale();
        steepestSale();
        bids();
        ends();
        rowOfNothing();
        rowOfAll();
        lotsOfRow();
        rowChangesNothing();
    }

    private static void sold(DeafAuction x, String which, int price, int owner, int bids) {
        Edge.due(which + ": price", x.sale(0, 0), price);
        Edge.due(which + ": owner", x.sale(0, 1), owner);
        Edge.due(which + ": bids", x.sale(0, 2), bids);
    }

    private static void nobodyBids() {
        Edge.of("Text 2", "A SALE of a LOT: all sit in their SEATS, the PRICE is 0, nobody has it");
        DeafAuction x = Check.in("a22;b10;h20;n30");
        x.sit(0, 3);
        sold(x, "worth nothing", 0, Check.NONE, 0);
        Edge.due("no bid", x.bid(0, 0), Check.NONE);
        Edge.due("0 sits where it did", x.ends(0, 0), 3);
        Edge.due("1 sits where it did", x.ends(1, 0), 1);
        Edge.due("2 sits where it did", x.ends(2, 0), 2);
    }

    private static void ownerDoesNotBidAgain() {
        Edge.of("Text 2", "of those who do not have it, are SEEN, and would go so far");
        DeafAuction x = Check.in("a12;b99;b99");
        Check.worths(x, 0, 99, 0);
        x.law(2);
        sold(x, "0 alone", 1, 0, 1);
        Check.worths(x, 0, 0, 99);
        sold(x, "1 alone", 1, 1, 1);
        Check.worths(x, 0, 99, 1);
        sold(x, "1 comes too late", 1, 0, 1);
        Check.worths(x, 0, 99, 2);
        sold(x, "1 bids once", 3, 0, 3);
    }

    private static void leastSeat() {
        Edge.of("Text 2", "the one of the least SEAT bids");
        DeafAuction x = Check.in("a22;b20;b20;b20");
        x.law(2);
        Check.worths(x, 0, 1, 1, 1);
        sold(x, "0 in seat 0", 1, 0, 1);
        x.sit(0, 3);
        sold(x, "1 in seat 1", 1, 1, 1);
        x.sit(2, 0);
        sold(x, "2 in seat 0", 1, 2, 1);
        x.sit(1, 2);
        x.sit(2, 1);
        sold(x, "2 in seat 1, ahead of 1 in the next row", 1, 2, 1);
        DeafAuction y = Check.in("a14;b20;b20;b20");
        y.law(2);
        y.sit(0, 3);
        y.sit(2, 0);
        Check.worths(y, 0, 9, 3, 3);
        int[] wants = {102, 201, 302, 400, Check.NONE};
        for (int k = 0; k < wants.length; k++) {
            Edge.due("by seats against numbers, bid " + k, y.bid(0, k), wants[k]);
        }
    }

    private static void riseFromSeatBeforeMove() {
        Edge.of("Text 2", "the PRICE goes up by 2, if bids from there count twice, else by 1");
        DeafAuction x = Check.in("a14;b20;b20");
        Check.worths(x, 0, 0, 20);
        sold(x, "the last seat on the left", 2, 1, 1);
        Edge.due("on the right then", x.ends(1, 0), 2);
        x.law(1);
        sold(x, "the same, right twice", 1, 1, 1);
        x.sit(1, 2);
        sold(x, "the first seat on the right", 2, 1, 1);
        x.law(0);
        sold(x, "the same, left twice", 1, 1, 1);
        x.law(2);
        sold(x, "none twice", 1, 1, 1);
    }

    private static void endOfRow() {
        Edge.of("Text 2", "that BUYER has it, and moves to the next SEAT to the right in its row, if there is one");
        for (int wide = 2; wide <= 6; wide++) {
            for (int seat = 0; seat < 2 * wide; seat++) {
                DeafAuction x = Check.in("a2" + wide + ";b20;b20");
                // 0 sits out of the way, in the other row.
                x.sit(0, seat < wide ? 2 * wide - 1 : 0);
                x.sit(1, seat);
                x.worth(1, 0, 20);
                boolean last = seat % wide == wide - 1;
                String which = "wide " + wide + ", from seat " + seat;
                Edge.due(which, x.ends(1, 0), last ? seat : seat + 1);
                Edge.due(which + ": has it", x.sale(0, 1), 1);
            }
        }
    }

    private static void takenSeat() {
        Edge.of("Text 2", "and nobody sits there");
        DeafAuction x = Check.in("a13;b20;b20");
        x.worth(0, 0, 20);
        Edge.due("1 sits there", x.ends(0, 0), 0);
        x.sit(1, 2);
        Edge.due("1 sits one on", x.ends(0, 0), 1);
    }

    private static void seatLeftFree() {
        Edge.of("Text 2", "BEAT by BEAT");
        DeafAuction x = Check.in("a14;b20;b20");
        Check.worths(x, 0, 10, 9);
        int[] wants = {200, 401, 600, 701, 900, Check.NONE};
        for (int k = 0; k < wants.length; k++) {
            Edge.due("bid " + k, x.bid(0, k), wants[k]);
        }
        Edge.due("0 went twice, after 1", x.ends(0, 0), 2);
        Edge.due("1 went twice", x.ends(1, 0), 3);
    }

    private static void moverTakesSeat() {
        Edge.of("Text 2", "moves to the next SEAT to the right in its row, if there is one, and nobody sits there");
        DeafAuction x = Check.in("a13;b20;b20");
        Check.worths(x, 0, 10, 10);
        x.law(2);
        sold(x, "by ones", 10, 1, 10);
        Edge.due("0 comes up behind 1", x.ends(0, 0), 1);
        Edge.due("1 is in the last seat", x.ends(1, 0), 2);
    }

    private static void moverHides() {
        Edge.of("Text 2", "BEAT by BEAT: of those who do not have it, are SEEN");
        DeafAuction x = Check.in("a23;b20;b20;h20");
        x.law(2);
        x.sit(1, 5);
        x.sit(2, 4);
        Check.worths(x, 0, 9, 0, 9);
        Edge.due("2 is seen at first", x.ofBuyer(2, 3), 1);
        sold(x, "0 moves to the seat ahead of 2", 1, 0, 1);
        x.sit(2, 3);
        Edge.due("2 is hidden at first", x.ofBuyer(2, 3), 0);
        // 2 bids from behind the seat that 0 left, and follows it: then it is hidden, but has it.
        Check.worths(x, 0, 1, 0, 9);
        sold(x, "0 moves out of the way of 2", 2, 2, 2);
        Edge.due("2 follows", x.ends(2, 0), 4);
    }

    private static void saleIsOver() {
        Edge.of("Text 2", "If nobody bids, the SALE is over");
        DeafAuction x = Check.in("a22;b20;b20;h20");
        x.law(2);
        Check.worths(x, 0, 3, 2, 20);
        sold(x, "who would go on is hidden", 3, 0, 3);
        Edge.due("no bid more", x.bid(0, 3), Check.NONE);
    }

    private static void seenBuyer() {
        Edge.of("Text 2", "SEEN: a BUYER always");
        DeafAuction x = Check.in("a22;b20;b20;b20;b20");
        x.law(2);
        for (int b = 0; b < 4; b++) {
            Edge.due(b + " is seen", x.ofBuyer(b, 3), 1);
        }
        Check.worths(x, 0, 0, 0, 0, 5);
        sold(x, "behind 1", 1, 3, 1);
        DeafAuction y = Check.in("a22;b20;h20");
        y.law(2);
        y.sit(0, 3);
        Check.worths(y, 0, 5, 0);
        sold(y, "the first, behind a hatted one", 1, 0, 1);
    }

    private static void seenHatted() {
        Edge.of("Text 2", "a HATTED one (a NERVOUS one, too), if nobody sits in the SEAT right ahead of it");
        for (char ahead : new char[] {'b', 'h', 'n'}) {
            for (char behind : new char[] {'h', 'n'}) {
                DeafAuction x = Check.in("a32;" + ahead + "20;" + behind + "20");
                String which = behind + " behind " + ahead;
                Edge.due(which + ": in the first row", x.ofBuyer(1, 3), 1);
                x.sit(1, 2);
                Edge.due(which, x.ofBuyer(1, 3), 0);
                x.worth(1, 0, 20);
                sold(x, which, 0, Check.NONE, 0);
                x.sit(0, 1);
                Edge.due(which + ": nobody ahead", x.ofBuyer(1, 3), 1);
                sold(x, which + ": nobody ahead", 2, 1, 1);
            }
        }
    }

    private static void seenByColumn() {
        Edge.of("Text 2", "(of its column in the row ahead)");
        for (int seat = 0; seat < 12; seat++) {
            DeafAuction x = Check.in("a43;b20;h20");
            x.sit(1, 7);
            boolean own = seat == 7;
            Edge.due("0 in seat " + seat, x.sit(0, seat), own ? Check.STATE : 0);
            Edge.due("1 in seat 7, 0 in " + seat, x.ofBuyer(1, 3), seat == 4 ? 0 : 1);
        }
        DeafAuction x = Check.in("a43;b20;h20");
        x.sit(0, 2);
        x.sit(1, 3);
        Edge.due("the end of the row ahead is not ahead", x.ofBuyer(1, 3), 1);
    }

    private static void everyHatCounts() {
        Edge.of("Text 2", "a HATTED one (a NERVOUS one, too)");
        DeafAuction x = Check.in("a23;b20;h20;n20;b20");
        x.law(2);
        x.sit(3, 5);
        x.sit(1, 3);
        x.sit(2, 4);
        Edge.due("3 sits down ahead of 2", x.sit(3, 1), 5);
        Check.worths(x, 0, 0, 20, 20, 0);
        sold(x, "two hats hidden, whoever comes behind them", 0, Check.NONE, 0);
    }

    private static void goesSoFar() {
        Edge.of("Text 2", "GOES SO FAR: if the PRICE, gone up, is no more than its LIMIT");
        DeafAuction x = Check.in("a12;b99;b99");
        int[][] alone = {{0, 0}, {0, 1}, {2, 1}, {2, 1}};
        for (int worth = 0; worth < 4; worth++) {
            Check.worths(x, 0, worth, 0);
            Edge.due("by 2, limit " + worth, x.sale(0, 0), alone[worth][0]);
            Check.worths(x, 0, 0, worth);
            Edge.due("by 1, limit " + worth, x.sale(0, 0), alone[worth][1]);
        }
        x.law(2);
        // 0 bids 1, 3, 5: 1 bids in between as far as it goes.
        int[] prices = {1, 1, 3, 3, 5, 5, 6};
        for (int worth = 0; worth < prices.length; worth++) {
            Check.worths(x, 0, 5, worth);
            Edge.due("5 and " + worth, x.sale(0, 0), prices[worth]);
            Edge.due("5 and " + worth + ": owner", x.sale(0, 1), worth == 6 ? 1 : 0);
        }
    }

    private static void limitOfBuyer() {
        Edge.of("Text 2", "of a BUYER, a HATTED one the lesser of what the LOT is WORTH to it and its PURSE");
        DeafAuction x = Check.in("a12;b20;h20");
        int[][] table = {{0, 0}, {1, 1}, {19, 19}, {20, 20}, {21, 20}, {99, 20}};
        for (int[] row : table) {
            Check.worths(x, 1, row[0], row[0]);
            Edge.due("b, worth " + row[0], x.limit(0, 1), row[1]);
            Edge.due("h, worth " + row[0], x.limit(1, 1), row[1]);
        }
        DeafAuction rich = Check.in("a12;b99;b01");
        Check.worths(rich, 1, 99, 99);
        Edge.due("the greatest purse", rich.limit(0, 1), 99);
        Edge.due("the least purse", rich.limit(1, 1), 1);
    }

    private static void limitOfNervous() {
        Edge.of("Text 2", "of a NERVOUS one 2 less (0 at least)");
        DeafAuction x = Check.in("a14;n20;n01;n02;n03");
        int[][] table = {{0, 0}, {1, 0}, {2, 0}, {3, 1}, {19, 17}, {20, 18}, {21, 18}, {99, 18}};
        for (int[] row : table) {
            x.worth(0, 1, row[0]);
            Edge.due("worth " + row[0], x.limit(0, 1), row[1]);
        }
        Check.worths(x, 2, 0, 99, 99, 99);
        Edge.due("a purse of 1", x.limit(1, 2), 0);
        Edge.due("a purse of 2", x.limit(2, 2), 0);
        Edge.due("a purse of 3", x.limit(3, 2), 1);
        Check.worths(x, 0, 2, 0, 0, 0);
        x.law(2);
        sold(x, "0 at least is no bid", 0, Check.NONE, 0);
        Check.worths(x, 0, 3, 0, 0, 0);
        sold(x, "1 is one", 1, 0, 1);
    }

    /** A row of lots on sheet 3. */
    private static void lots(DeafAuction x, int... lots) {
        Check.fill(x, 3, 2, lots);
    }

    private static void rowPays() {
        Edge.of("Text 2", "In a ROW of LOTS (each once) SALE follows SALE: who has a LOT pays its PRICE out of the PURSE");
        DeafAuction x = Check.in("a12;b10;b07");
        Check.worths(x, 0, 9, 9);
        Check.worths(x, 1, 9, 9);
        lots(x, 0, 1);
        // Lot 0: 2, 3, 5, 6, 8: 0 pays 8 and has 2. Lot 1: 2, 3: 1 pays 3.
        Edge.due("the first brings", x.row(-1, 3, 2, 0, 1), 8);
        Edge.due("0 has left", x.row(0, 3, 2, 0, 1), 2);
        Edge.due("1 has paid nothing", x.row(1, 3, 2, 0, 1), 7);
        Edge.due("both bring", x.row(-1, 3, 2, 0, 2), 11);
        Edge.due("0 has paid no more", x.row(0, 3, 2, 0, 2), 2);
        Edge.due("1 has left", x.row(1, 3, 2, 0, 2), 4);
        lots(x, 2, 3);
        Edge.due("lots that nobody has bring", x.row(-1, 3, 2, 0, 2), 0);
        Edge.due("nobody pays", x.row(0, 3, 2, 0, 2), 10);
    }

    private static void rowSpendsAll() {
        Edge.of("Text 2", "pays its PRICE out of the PURSE");
        DeafAuction x = Check.in("a12;b05;b04");
        x.law(2);
        for (int lot = 0; lot < 4; lot++) {
            Check.worths(x, lot, 9, 9);
        }
        lots(x, 0, 1, 2, 3);
        // Lot 0: 0 has it at 5, its last. Then 1 alone has all others, at 1 each.
        int[] sums = {0, 5, 6, 7, 8};
        int[] left = {4, 4, 3, 2, 1};
        for (int n = 0; n <= 4; n++) {
            Edge.due(n + " lots bring", x.row(-1, 3, 2, 0, n), sums[n]);
            Edge.due("0 has left after " + n, x.row(0, 3, 2, 0, n), n == 0 ? 5 : 0);
            Edge.due("1 has left after " + n, x.row(1, 3, 2, 0, n), left[n]);
        }
    }

    private static void rowOfNervous() {
        Edge.of("Text 2", "SALE follows SALE");
        DeafAuction x = Check.in("a12;n06;b09");
        x.law(2);
        Check.worths(x, 0, 9, 3);
        Check.worths(x, 1, 9, 0);
        Check.worths(x, 2, 9, 0);
        lots(x, 0, 1, 2);
        // Limits of 0: 4, then 2 less than 3, then 2 less than 2.
        int[] sums = {0, 3, 4, 4};
        int[] left = {6, 3, 2, 2};
        for (int n = 0; n <= 3; n++) {
            Edge.due(n + " lots bring", x.row(-1, 3, 2, 0, n), sums[n]);
            Edge.due("0 has left after " + n, x.row(0, 3, 2, 0, n), left[n]);
            Edge.due("1 has left after " + n, x.row(1, 3, 2, 0, n), 9);
        }
    }

    private static void rowSeats() {
        Edge.of("Text 2", "all sit in the next one as they sat at the end of the last one");
        DeafAuction x = Check.in("a14;b20;b20");
        for (int lot = 0; lot < 4; lot++) {
            Check.worths(x, lot, 0, 9);
            Edge.due("a sale of " + lot + " alone", x.sale(lot, 0), 2);
        }
        lots(x, 3, 2, 1, 0);
        // 1 bids from seats 1 (left, twice), 2, 3 and, as the row ends there, 3 again.
        int[] sums = {0, 2, 3, 4, 5};
        for (int n = 0; n <= 4; n++) {
            Edge.due(n + " lots bring", x.row(-1, 3, 2, 0, n), sums[n]);
        }
    }

    private static void saleAnswers() {
        Edge.of("Promise 8", "A SALE of a LOT: 0 the PRICE, 1 who has it (NONE), 2 how many bid");
        DeafAuction x = Check.in("a12;b30;b30");
        sold(x, "nobody has it", 0, Check.NONE, 0);
        Check.worths(x, 0, 10, 10);
        sold(x, "2, 3, 5, 6, 8, 9", 9, 1, 6);
        Check.worths(x, 3, 2, 0);
        Edge.due("lot 3: price", x.sale(3, 0), 2);
        Edge.due("lot 3: owner", x.sale(3, 1), 0);
        Edge.due("lot 3: bids", x.sale(3, 2), 1);
        sold(x, "lot 0 again", 9, 1, 6);
    }

    private static void longestSale() {
        Edge.of("Promise 8", "2 how many bid");
        DeafAuction x = Check.in("a12;b99;b99");
        Check.worths(x, 0, 99, 99);
        x.law(2);
        sold(x, "by ones up to 99", 99, 0, 99);
        Edge.due("bid 97", x.bid(0, 97), 9801);
        Edge.due("bid 98", x.bid(0, 98), 9900);
        Edge.due("bid 99", x.bid(0, 99), Check.NONE);
        x.law(0);
        sold(x, "by 2 and 1 up to 99", 99, 1, 66);
        Edge.due("bid 64", x.bid(0, 64), 9800);
        Edge.due("bid 65", x.bid(0, 65), 9901);
        Edge.due("bid 66", x.bid(0, 66), Check.NONE);
    }

    private static void steepestSale() {
        Edge.of("Promise 8", "0 the PRICE");
        DeafAuction x = Check.in("a22;b99;b01;b99;b01");
        Check.worths(x, 0, 99, 0, 99, 0);
        sold(x, "by twos, 100 would be too much", 98, 0, 49);
        Edge.due("bid 48", x.bid(0, 48), 9800);
        Edge.due("bid 49", x.bid(0, 49), Check.NONE);
    }

    private static void bids() {
        Edge.of("Promise 9", "The k-th bid (0 on) of a SALE: 100 times the PRICE then and who bids");
        DeafAuction x = Check.in("a12;b30;b30");
        Check.worths(x, 1, 4, 4);
        Edge.due("the first, of a sale not asked for yet", x.bid(1, 0), 200);
        Edge.due("the last", x.bid(1, 1), 301);
        Edge.of("Promise 9", "NONE: there are fewer");
        Edge.due("one beyond the last", x.bid(1, 2), Check.NONE);
        Edge.due("far beyond", x.bid(1, Check.MOST), Check.NONE);
        Edge.due("of a lot that nobody has", x.bid(0, 0), Check.NONE);
        Edge.due("of the first again", x.bid(1, 0), 200);
    }

    private static void ends() {
        Edge.of("Promise 10", "Where a BUYER sits at the end of a SALE of a LOT");
        DeafAuction x = Check.in("a14;b20;b20");
        x.worth(1, 2, 9);
        Edge.due("who moved", x.ends(1, 2), 2);
        Edge.due("who did not", x.ends(0, 2), 0);
        Edge.due("of a lot that nobody has", x.ends(1, 0), 1);
        Edge.due("it sits where it did", x.ofBuyer(1, 1), 1);
    }

    private static void rowOfNothing() {
        Edge.of("Promise 11", "A ROW of n such cells: what all bring (b -1), what a BUYER has left of its PURSE");
        DeafAuction x = Check.in("a12;b30;b40");
        Check.worths(x, 0, 9, 9);
        for (int lane = 0; lane < 3; lane++) {
            Check.fill(x, 1, lane, 7, 7, 0);
            Edge.due(x, "no lot brings", x.row(-1, 1, lane, 0, 0), 0, 0);
            Edge.due(x, "all of its purse", x.row(0, 1, lane, 1, 0), 30, 0);
            Edge.due(x, "no lot, at the end", x.row(1, 1, lane, 3, 0), 40, 0);
            Edge.due(x, "no lot, beyond", x.row(1, 1, lane, 4, 0), Check.INDEX, 3);
            Edge.due(x, "the last cell", x.row(-1, 1, lane, 2, 1), 9, 0);
            Check.fill(x, 1, lane);
            Edge.due(x, "a row of no cells", x.row(-1, 1, lane, 0, 0), 0, 0);
            Edge.due(x, "its first cell", x.row(-1, 1, lane, 0, 1), Check.INDEX, 3);
        }
    }

    private static void rowOfAll() {
        Edge.of("Promise 11", "A ROW of n such cells");
        DeafAuction x = Check.in("a12;b30;b40");
        x.law(2);
        for (int lot = 0; lot < 4; lot++) {
            x.worth(0, lot, 1 + lot);
            x.worth(1, lot, 1 + lot);
        }
        lots(x, 2, 0, 3, 1, 2);
        // By ones each brings what it is worth: 3, 1, 4, 2; the odd ones go to 0.
        Edge.due("all four", x.row(-1, 3, 2, 0, 4), 10);
        Edge.due("0 has left", x.row(0, 3, 2, 0, 4), 26);
        Edge.due("1 has left", x.row(1, 3, 2, 0, 4), 34);
        Edge.due("from the second on", x.row(-1, 3, 2, 1, 4), 10);
        Edge.due("five", x.row(-1, 3, 2, 0, 5), Check.UNKNOWN);
    }

    private static void lotsOfRow() {
        Edge.of("Promise 11", "UNKNOWN: a LOT (one told twice: so, too)");
        int[][] rows = {{-1}, {4}, {0, -1}, {3, 4}, {0, 0}, {0, 1, 0}, {3, 0, 1, 3}, {0, 1, 2, 2},
            {0, 1, 2, 3, 4}, {Check.MOST}, {Check.LEAST}, {32}, {0, 32}, {0, 256}};
        for (int[] row : rows) {
            DeafAuction x = Check.in("a12;b30;b40");
            lots(x, row);
            String which = java.util.Arrays.toString(row);
            Edge.due(x, which, x.row(-1, 3, 2, 0, row.length), Check.UNKNOWN, 0);
            Edge.due(x, which + " of 0", x.row(0, 3, 2, 0, row.length), Check.UNKNOWN, 0);
        }
        DeafAuction x = Check.in("a12;b30;b40");
        Check.fill(x, 3, 0, 256, 257);
        Edge.due("as bytes 256 and 257 are lots 0 and 1", x.row(-1, 3, 0, 0, 2), 0);
    }

    private static void rowChangesNothing() {
        Edge.of("Promise 11", "what a BUYER has left of its PURSE");
        DeafAuction x = Check.in("a14;b20;b20");
        Check.worths(x, 0, 9, 9);
        lots(x, 0);
        int left = x.row(0, 3, 2, 0, 1);
        Edge.due("0 has paid", left, 11);
        Edge.due("the same again", x.row(0, 3, 2, 0, 1), left);
        Edge.due("its purse is as it was", x.ofBuyer(0, 2), 20);
        Edge.due("it sits as it did", x.ofBuyer(0, 1), 0);
        Edge.due("it would go as far", x.limit(0, 0), 9);
    }
}
