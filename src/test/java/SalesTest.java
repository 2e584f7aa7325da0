/** Promises 8 to 11: sales, bids, where all sit then, rows of lots. */
public final class SalesTest {
    private SalesTest() {
    }

    public static void main(String[] args) {
        laws();
        halfOfWide();
        moving();
        lastSeatOfRow();
        afterAnotherHall();
        leastSeat();
        seen();
        nervous();
        longest();
        refusals();
        purses();
        seatsInRow();
        refusalsOfRow();
        Check.finish();
    }

    /** A sale of lot 0: its price, who has it, and its bids. */
    private static void sold(DeafAuction x, String which, int price, int owner, int... bids) {
        Check.due(8, which + ": price", x.sale(0, 0), price);
        Check.due(8, which + ": owner", x.sale(0, 1), owner);
        Check.due(8, which + ": bids", x.sale(0, 2), bids.length);
        for (int k = 0; k < bids.length; k++) {
            Check.due(9, which + ": bid " + k, x.bid(0, k), bids[k]);
        }
        Check.due(9, which + ": no bid", x.bid(0, bids.length), Check.NONE);
        Check.due(9, which + ": no bid", x.bid(0, Check.MOST), Check.NONE);
    }

    private static void end(DeafAuction x, String which, int... seats) {
        for (int b = 0; b < seats.length; b++) {
            Check.due(10, which + ": ends of " + b, x.ends(b, 0), seats[b]);
            Check.due(10, which + ": a sale moves nobody for good", x.ends(b, 0), seats[b]);
        }
    }

    private static void laws() {
        DeafAuction x = Check.in("a12;b30;h50");
        sold(x, "worth nothing", 0, Check.NONE);
        Check.worths(x, 0, 10, 10);
        sold(x, "law 0", 9, 1, 200, 301, 500, 601, 800, 901);
        x.law(1);
        sold(x, "law 1", 10, 0, 100, 301, 400, 601, 700, 901, 1000);
        x.law(2);
        sold(x, "law 2", 10, 1, 100, 201, 300, 401, 500, 601, 700, 801, 900, 1001);
        end(x, "no room to move", 0, 1);
        Check.due(8, "another lot", x.sale(3, 0), 0);
    }

    private static void halfOfWide() {
        int[] left = {0, 0, 1, 1, 2, 2, 3};
        for (int wide = 2; wide <= 6; wide++) {
            DeafAuction x = Check.in("a2" + wide + ";b30;b30");
            Check.worths(x, 0, 9, 0);
            for (int column = 0; column < wide; column++) {
                for (int row = 0; row < 2; row++) {
                    x.sit(1, column == 0 ? 1 : 0);
                    x.sit(0, row * wide + column);
                    String where = "wide " + wide + ", column " + column + ", row " + row;
                    boolean isLeft = column < left[wide];
                    x.law(0);
                    Check.due(8, where + ", law 0", x.sale(0, 0), isLeft ? 2 : 1);
                    x.law(1);
                    Check.due(8, where + ", law 1", x.sale(0, 0), isLeft ? 1 : 2);
                    x.law(2);
                    Check.due(8, where + ", law 2", x.sale(0, 0), 1);
                }
            }
        }
    }

    private static void moving() {
        DeafAuction x = Check.in("a14;b20;b20");
        Check.worths(x, 0, 0, 6);
        sold(x, "1 alone", 2, 1, 201);
        end(x, "1 alone", 0, 2);
        Check.worths(x, 0, 3, 6);
        sold(x, "0 gives up", 4, 1, 200, 401);
        end(x, "0 gives up", 0, 2);
        Check.worths(x, 0, 10, 6);
        sold(x, "1 gives up", 6, 0, 200, 401, 600);
        end(x, "1 gives up", 1, 2);
        Check.worths(x, 0, 10, 9);
        sold(x, "both move to the right", 9, 0, 200, 401, 600, 701, 900);
        end(x, "both move to the right", 2, 3);
        Check.due(10, "ends of another lot", x.ends(0, 1), 0);
        Check.due(8, "all sit as before", x.ofBuyer(1, 1), 1);
    }

    private static void lastSeatOfRow() {
        DeafAuction x = Check.in("a22;b20;b20");
        Check.worths(x, 0, 5, 5);
        sold(x, "the end of a row", 5, 0, 200, 301, 500);
        end(x, "the end of a row", 0, 1);
        x.sit(1, 3);
        sold(x, "the end of the hall", 5, 1, 200, 301, 400, 501);
        end(x, "the end of the hall", 1, 3);
    }

    private static void afterAnotherHall() {
        DeafAuction x = Check.in("a46;h20;h20;h20;h20;h20;h20");
        Check.worths(x, 0, 9, 9, 9, 9, 9, 9);
        Check.due(8, "a sale in a large hall", x.sale(0, 1) >= 0 ? 1 : 0, 1);
        Check.due(2, "a small hall", Check.hall(x, "a23;b20;b20;b20"), 3);
        Check.worths(x, 0, 4, 0, 4);
        x.sit(1, 3);
        x.sit(2, 4);
        sold(x, "0 moves on the right, 2 behind it", 4, 0, 200, 302, 400);
        end(x, "0 moves on the right, 2 behind it", 2, 3, 5);
        DeafAuction y = Check.in("a13;b20;b20");
        y.worth(1, 0, 9);
        Check.due(10, "ends of the first sale of all", y.ends(1, 0), 2);
    }

    private static void leastSeat() {
        DeafAuction x = Check.in("a14;b20;b20");
        Check.worths(x, 0, 1, 1);
        x.law(2);
        sold(x, "0 sits ahead", 1, 0, 100);
        x.sit(0, 3);
        sold(x, "1 sits ahead", 1, 1, 101);
        end(x, "1 sits ahead", 3, 2);
    }

    private static void seen() {
        DeafAuction x = Check.in("a23;b20;b20;h20");
        Check.worths(x, 0, 3, 0, 9);
        x.sit(2, 3);
        sold(x, "2 is hidden by 0", 2, 0, 200);
        x.sit(1, 5);
        sold(x, "0 moves out of the way", 4, 2, 200, 402);
        end(x, "0 moves out of the way", 1, 5, 4);
        Check.worths(x, 0, 6, 0, 9);
        sold(x, "2 is hidden for a while", 6, 2, 200, 402, 500, 602);
        end(x, "2 is hidden for a while", 2, 5, 4);
    }

    private static void nervous() {
        DeafAuction x = Check.in("a22;b20;b20;n08");
        Check.worths(x, 0, 0, 0, 9);
        sold(x, "a nervous one is hidden, too", 0, Check.NONE);
        x.sit(0, 3);
        Check.worths(x, 0, 0, 0, 3);
        sold(x, "2 less is too little", 0, Check.NONE);
        Check.worths(x, 0, 0, 0, 4);
        sold(x, "2 less is enough", 2, 2, 202);
        x.law(2);
        Check.worths(x, 0, 9, 0, 9);
        sold(x, "2 less than the purse", 6, 0, 102, 200, 302, 400, 502, 600);
    }

    private static void longest() {
        DeafAuction x = Check.in("a12;b99;b99");
        Check.worths(x, 0, 99, 99);
        x.law(2);
        Check.due(8, "longest: price", x.sale(0, 0), 99);
        Check.due(8, "longest: owner", x.sale(0, 1), 0);
        Check.due(8, "longest: bids", x.sale(0, 2), 99);
        Check.due(9, "longest: bid 97", x.bid(0, 97), 9801);
        Check.due(9, "longest: bid 98", x.bid(0, 98), 9900);
        Check.due(9, "longest: bid 99", x.bid(0, 99), Check.NONE);
    }

    private static void refusals() {
        DeafAuction x = new DeafAuction();
        Check.due(8, "sale(4, 3), no hall", x.sale(4, 3), Check.UNKNOWN);
        Check.due(8, "sale(0, 3), no hall", x.sale(0, 3), Check.OUTSIDE);
        Check.due(8, "sale(0, 2), no hall", x.sale(0, 2), Check.STATE);
        Check.due(9, "bid(4, 0), no hall", x.bid(4, 0), Check.UNKNOWN);
        Check.due(9, "bid(0, -1), no hall", x.bid(0, -1), Check.UNKNOWN);
        Check.due(9, "bid(3, 0), no hall", x.bid(3, 0), Check.STATE);
        Check.due(10, "ends(0, 0), no hall", x.ends(0, 0), Check.UNKNOWN);
        x = Check.in("a12;b30;h50");
        Check.due(8, "sale(-1, 0)", x.sale(-1, 0), Check.UNKNOWN);
        Check.due(8, "sale(4, 3)", x.sale(4, 3), Check.UNKNOWN);
        Check.due(8, "sale(0, -1)", x.sale(0, -1), Check.OUTSIDE);
        Check.due(9, "bid(-1, 0)", x.bid(-1, 0), Check.UNKNOWN);
        Check.due(9, "bid(0, least)", x.bid(0, Check.LEAST), Check.UNKNOWN);
        Check.due(10, "ends(2, 0)", x.ends(2, 0), Check.UNKNOWN);
        Check.due(10, "ends(-1, 0)", x.ends(-1, 0), Check.UNKNOWN);
        Check.due(10, "ends(0, 4)", x.ends(0, 4), Check.UNKNOWN);
        Check.due(10, "ends(0, -1)", x.ends(0, -1), Check.UNKNOWN);
    }

    private static void purses() {
        DeafAuction x = Check.in("a12;b10;b07");
        Check.worths(x, 0, 9, 9);
        Check.worths(x, 1, 9, 9);
        for (int lane = 0; lane < 3; lane++) {
            Check.fill(x, 1, lane, 3, 0, 1);
            Check.due(11, "lot 0 brings", x.row(-1, 1, lane, 1, 1), 8);
            Check.due(11, "lots 0, 1 bring", x.row(-1, 1, lane, 1, 2), 11);
            Check.due(11, "0 has left", x.row(0, 1, lane, 1, 2), 2);
            Check.due(11, "1 has left", x.row(1, 1, lane, 1, 2), 4);
            Check.due(11, "lots 3, 0, 1 bring", x.row(-1, 1, lane, 0, 3), 11);
            Check.due(11, "no lot brings", x.row(-1, 1, lane, 3, 0), 0);
            Check.due(11, "0 has left", x.row(0, 1, lane, 3, 0), 10);
        }
        Check.due(11, "the purse is as it was", x.ofBuyer(0, 2), 10);
        Check.due(11, "the sale is as it was", x.sale(1, 0), 8);
    }

    private static void seatsInRow() {
        DeafAuction x = Check.in("a14;b20;b20");
        Check.worths(x, 0, 0, 6);
        Check.worths(x, 1, 0, 5);
        Check.fill(x, 3, 0, 0, 1, 0);
        Check.due(11, "lot 1 brings", x.row(-1, 3, 0, 1, 1), 2);
        Check.due(11, "lots 0, 1 bring", x.row(-1, 3, 0, 0, 2), 3);
        Check.due(11, "lots 1, 0 bring", x.row(-1, 3, 0, 1, 2), 3);
        Check.due(11, "1 has left", x.row(1, 3, 0, 0, 2), 17);
        Check.due(11, "all sit as before", x.ofBuyer(1, 1), 1);
    }

    private static void refuse(DeafAuction x, int[] call, int want, int fault) {
        int got = x.row(call[0], call[1], call[2], call[3], call[4]);
        String told = "row" + java.util.Arrays.toString(call);
        Check.due(11, told, got, want);
        Check.due(31, "fault() after " + told, x.fault(), fault);
    }

    private static void refusalsOfRow() {
        DeafAuction x = new DeafAuction();
        refuse(x, new int[] {0, 0, 0, 0, 0}, Check.UNKNOWN, 0);
        refuse(x, new int[] {-1, 4, 3, 0, 0}, Check.UNKNOWN, 0);
        refuse(x, new int[] {-1, 0, 3, 0, 0}, Check.OUTSIDE, 0);
        refuse(x, new int[] {-1, 0, 0, -1, -1}, Check.STATE, 0);
        x = Check.in("a12;b10;b07");
        Check.fill(x, 1, 1, 0, 1, 1, 4, -1, 2, 3);
        refuse(x, new int[] {2, 1, 3, 0, 1}, Check.UNKNOWN, 0);
        refuse(x, new int[] {-2, 1, 1, 0, 1}, Check.UNKNOWN, 0);
        refuse(x, new int[] {-1, -1, 3, 0, 1}, Check.UNKNOWN, 0);
        refuse(x, new int[] {-1, 1, 3, 0, 1}, Check.OUTSIDE, 0);
        refuse(x, new int[] {-1, 1, -1, 0, 1}, Check.OUTSIDE, 0);
        refuse(x, new int[] {-1, 1, 0, -1, -1}, Check.CAST, 2);
        refuse(x, new int[] {-1, 1, 2, 0, 1}, Check.CAST, 2);
        refuse(x, new int[] {-1, 2, 2, -1, -1}, Check.NULL, 1);
        refuse(x, new int[] {-1, 1, 1, -1, -1}, Check.SIZE, 4);
        refuse(x, new int[] {-1, 1, 1, -1, 0}, Check.INDEX, 3);
        refuse(x, new int[] {-1, 1, 1, 8, 0}, Check.INDEX, 3);
        refuse(x, new int[] {-1, 1, 1, 2, 6}, Check.INDEX, 3);
        refuse(x, new int[] {-1, 1, 1, 2, Check.MOST}, Check.INDEX, 3);
        refuse(x, new int[] {-1, 1, 1, 7, 0}, 0, 0);
        refuse(x, new int[] {-1, 1, 1, 0, 3}, Check.UNKNOWN, 0);
        refuse(x, new int[] {-1, 1, 1, 3, 1}, Check.UNKNOWN, 0);
        refuse(x, new int[] {-1, 1, 1, 4, 1}, Check.UNKNOWN, 0);
        refuse(x, new int[] {1, 1, 1, 5, 2}, 7, 0);
    }
}
