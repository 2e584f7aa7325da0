/** The edges of text 3 and of promises 12 to 17, each by a test of its own, on new objects. */
final class SeatEdges {
    private SeatEdges() {
    }

    static void run() {
        gain();
        bestOfFreeSeats();
        bestOfSeveral();
        bestIsOwn();
        bestAnswers();
        orderOfSeveral();
        orderLast();
        orderAnswers();
        ringOfOne();
        ringOfLikeLimits();
        ringByLimit();
        ringWithoutLimit();
        ringSits();
        ringIsHidden();
        ringAnswers();
        meanOfAllSets();
        meanOfEmptySeats();
        meanInLeastTerms();
        hangsOnAnother();
        hangsOnNobody();
        hangsAnswers();
    }

    private static void gain() {
        Edge.of("Text 3", "GAIN of a BUYER by a SALE: what the LOT is WORTH to it less the PRICE, if it has it, else 0");
        DeafAuction x = Check.in("a12;b99;b99");
        x.law(2);
        Edge.due("nobody has it", x.gain(0, 0), 100);
        Check.worths(x, 0, 99, 0);
        Edge.due("the most", x.gain(0, 0), 198);
        Edge.due("of who does not have it", x.gain(1, 0), 100);
        Check.worths(x, 0, 5, 5);
        Edge.due("at its worth", x.gain(0, 0), 100);
        Check.worths(x, 0, 5, 4);
        Edge.due("at its worth, for the other's 4", x.gain(0, 0), 100);
        Check.worths(x, 0, 6, 4);
        Edge.due("one below its worth", x.gain(0, 0), 101);
        Edge.of("Promise 12", "GAIN, and 100");
        DeafAuction poor = Check.in("a12;n05;b01");
        poor.law(2);
        Check.worths(poor, 3, 99, 0);
        Edge.due("by the worth, not the limit", poor.gain(0, 3), 198);
        Edge.due("none", poor.gain(1, 3), 100);
    }

    private static void best(DeafAuction x, int b, String which, int seat, int gain) {
        Edge.due(which + ": seat", x.best(b, 0, 0), seat);
        Edge.due(which + ": gain", x.best(b, 0, 1), gain);
    }

    private static void bestOfFreeSeats() {
        Edge.of("Text 3", "BEST SEAT: the SEAT in which nobody sits (its own, too)");
        DeafAuction x = Check.in("a12;b20;b20");
        Check.worths(x, 0, 6, 9);
        best(x, 0, "a full hall, 0", 0, 100);
        best(x, 1, "a full hall, 1", 1, 103);
        Check.worths(x, 0, 9, 0);
        best(x, 0, "no seat beyond the last, where it would be had for 1", 0, 107);
        DeafAuction y = Check.in("a22;b20;b20;b20");
        y.law(1);
        Check.worths(y, 0, 0, 6, 0);
        best(y, 1, "0 and 2 have the better seats", 1, 104);
        y.sit(2, 3);
        best(y, 1, "2 has left seat 2", 2, 105);
    }

    private static void bestOfSeveral() {
        Edge.of("Text 3", "from which its GAIN by a SALE of a LOT is the greatest: of several the least");
        DeafAuction x = Check.in("a14;b20;b20");
        Check.worths(x, 0, 0, 6);
        best(x, 1, "of seats 2, 3", 2, 105);
        x.sit(1, 3);
        best(x, 1, "of seats 2, 3, its own is 3", 2, 105);
        best(x, 0, "no gain anywhere, its own is 0", 0, 100);
        x.sit(0, 2);
        best(x, 0, "no gain anywhere, its own is 2", 0, 100);
        best(x, 1, "its own alone is on the right", 3, 105);
    }

    private static void bestIsOwn() {
        Edge.of("Text 3", "(its own, too)");
        DeafAuction x = Check.in("a22;b20;b20");
        x.law(1);
        Check.worths(x, 0, 0, 6);
        x.sit(1, 2);
        best(x, 1, "its own alone", 2, 105);
        x.sit(0, 3);
        x.sit(1, 0);
        best(x, 1, "the first seat, its own", 0, 105);
    }

    private static void bestAnswers() {
        Edge.of("Promise 13", "BEST SEAT (what 0), GAIN then, and 100 (1)");
        DeafAuction x = Check.in("a46;b20;h20");
        x.worth(1, 3, 99);
        x.law(0);
        Edge.due("the first seat on the right", x.best(1, 3, 0), 3);
        Edge.due("at 1", x.best(1, 3, 1), 198);
        Edge.due("it sits as it did", x.ofBuyer(1, 1), 1);
        Edge.due("of another lot", x.best(1, 0, 0), 1);
        Edge.due("no gain", x.best(1, 0, 1), 100);
        x.law(2);
        x.sit(0, 5);
        Edge.due("the first seat of all", x.best(1, 3, 0), 0);
    }

    private static void ordered(DeafAuction x, String which, int sum, int... lots) {
        Edge.due(which + ": brings", x.order(-1), sum);
        for (int q = 0; q < 4; q++) {
            Edge.due(which + ": lot " + q, x.order(q), lots[q]);
        }
    }

    private static void orderOfSeveral() {
        Edge.of("Text 3", "BEST ORDER: the ROW of all four LOTS that brings the most (all PRICES together): of several the first");
        DeafAuction x = Check.in("a12;b10;b20");
        x.law(2);
        ordered(x, "all bring nothing", 0, 0, 1, 2, 3);
        Check.worths(x, 2, 3, 3);
        ordered(x, "all bring 3", 3, 0, 1, 2, 3);
        Check.worths(x, 2, 0, 0);
        // Lot 0 first: 9 out of a purse of 10, then 2. Lot 1 first: 10 out of one of 20, then 9.
        Check.worths(x, 0, 9, 9);
        Check.worths(x, 1, 10, 20);
        ordered(x, "1 ahead of 0: the first of twelve", 19, 1, 0, 2, 3);
    }

    private static void orderLast() {
        Edge.of("Text 3", "the ROW of all four LOTS that brings the most (all PRICES together)");
        DeafAuction x = Check.in("a12;b04;b07");
        x.law(2);
        int[][] worths = {{3, 1}, {1, 2}, {3, 3}, {3, 6}};
        for (int lot = 0; lot < 4; lot++) {
            Check.worths(x, lot, worths[lot]);
        }
        // In this order 4, 3, 2 and 1 are paid, in every other one less.
        ordered(x, "the last of all orders", 10, 3, 2, 1, 0);
        x.sheet(1, 0, 4);
        for (int code = 0; code < 256; code++) {
            int[] lots = {code >> 6, code >> 4 & 3, code >> 2 & 3, code & 3};
            if ((1 << lots[0] | 1 << lots[1] | 1 << lots[2] | 1 << lots[3]) == 15) {
                for (int q = 0; q < 4; q++) {
                    x.put(1, q, lots[q]);
                }
                String which = java.util.Arrays.toString(lots) + " brings less";
                Edge.due(which, x.row(-1, 1, 0, 0, 4) < 10 ? 1 : 0, lots[0] == 3 && lots[1] == 2 && lots[2] == 1 ? 0 : 1);
            }
        }
    }

    private static void orderAnswers() {
        Edge.of("Promise 14", "BEST ORDER: what it brings (q -1), the q-th LOT");
        DeafAuction x = Check.in("a12;b10;b20");
        x.law(2);
        Check.worths(x, 1, 9, 9);
        Check.worths(x, 3, 10, 20);
        ordered(x, "3 ahead of 1", 19, 0, 2, 3, 1);
        Edge.due("a sale is as it was", x.sale(1, 0), 9);
        Edge.due("so are the purses", x.ofBuyer(0, 2), 10);
    }

    private static void ringOfOne() {
        Edge.of("Text 3", "A RING: a set of BUYERS of whom in a SALE just the one of the greatest LIMIT");
        DeafAuction x = Check.in("a13;b20;b20;b20");
        x.law(2);
        Check.worths(x, 0, 5, 9, 9);
        int[] wants = {9, 9, 9, 9, 9, 9, 6, 1};
        for (int set = 0; set < wants.length; set++) {
            Edge.due("the set " + set, x.ring(set, 0), wants[set]);
        }
        Edge.due("a sale without one", x.sale(0, 0), 9);
    }

    private static void ringOfLikeLimits() {
        Edge.of("Text 3", "(of several the least number) bids");
        DeafAuction x = Check.in("a12;b20;b20");
        Check.worths(x, 0, 9, 9);
        Edge.due("0 bids, from the left", x.ring(3, 0), 2);
        Check.worths(x, 0, 9, 8);
        Edge.due("0 bids", x.ring(3, 0), 2);
        Check.worths(x, 0, 8, 9);
        Edge.due("1 bids, from the right", x.ring(3, 0), 1);
        Check.worths(x, 0, 9, 9);
        // The least number, not the least seat.
        DeafAuction y = Check.in("a13;b20;b20");
        Check.worths(y, 0, 9, 9);
        y.sit(0, 2);
        y.sit(1, 0);
        Edge.due("0 bids, from the right now", y.ring(3, 0), 1);
    }

    private static void ringByLimit() {
        Edge.of("Text 3", "the one of the greatest LIMIT");
        DeafAuction x = Check.in("a12;b05;b09");
        Check.worths(x, 0, 99, 9);
        Edge.due("a purse of 5", x.ring(3, 0), 1);
        DeafAuction y = Check.in("a12;n20;b20");
        Check.worths(y, 0, 10, 9);
        Edge.due("a nervous one goes as far as 8", y.ring(3, 0), 1);
        Check.worths(y, 0, 11, 9);
        Edge.due("a nervous one goes as far as 9", y.ring(3, 0), 2);
    }

    private static void ringWithoutLimit() {
        Edge.of("Text 3", "A RING: a set of BUYERS");
        DeafAuction x = Check.in("a13;b20;b20;b20");
        x.law(2);
        Edge.due("of all, a lot worth nothing", x.ring(7, 0), 0);
        Check.worths(x, 0, 0, 0, 9);
        Edge.due("of two who would not bid", x.ring(3, 0), 1);
        Check.worths(x, 0, 0, 9, 9);
        Edge.due("of nobody", x.ring(0, 0), 9);
        Edge.due("of one who would not bid", x.ring(1, 0), 9);
    }

    private static void ringSits() {
        Edge.of("Text 3", "the others sit as they do, but never bid: the PRICE");
        DeafAuction x = Check.in("a23;b20;b20;h20");
        Check.worths(x, 0, 5, 9, 9);
        x.sit(2, 3);
        Edge.due("0 hides 2 as it holds back", x.ring(3, 0), 1);
        // 1 would go as far as 3, but never bids; 0 cannot move to its seat, where bids count twice.
        DeafAuction y = Check.in("a22;b20;b20;b20");
        y.law(1);
        Check.worths(y, 0, 4, 3, 4);
        Edge.due("1 does not make room for 0", y.ring(3, 0), 3);
    }

    private static void ringIsHidden() {
        Edge.of("Text 3", "just the one of the greatest LIMIT (of several the least number) bids");
        DeafAuction x = Check.in("a22;b20;b20;h20");
        Check.worths(x, 0, 0, 8, 9);
        Edge.due("2 is hidden, 1 holds back", x.ring(6, 0), 0);
        Edge.due("1 alone", x.ring(4, 0), 1);
    }

    private static void ringAnswers() {
        Edge.of("Promise 15", "A RING");
        for (int count = 2; count <= 6; count++) {
            DeafAuction x = Check.in("a16" + ";b20".repeat(count));
            x.worth(count - 1, 2, 20);
            int all = (1 << count) - 1;
            Edge.due("all " + count, x.ring(all, 2), x.sale(2, 0));
            Edge.due("the last of " + count, x.ring(1 << (count - 1), 2), x.sale(2, 0));
            Edge.of("Promise 15", "OUTSIDE: a bit of no BUYER");
            for (int bit = count; bit < 32; bit++) {
                Edge.due("bit " + bit + " of " + count, x.ring(1 << bit, 2), Check.OUTSIDE);
                Edge.due("all and bit " + bit, x.ring(all | 1 << bit, 2), Check.OUTSIDE);
            }
            Edge.due("all bits", x.ring(-1, 2), Check.OUTSIDE);
        }
    }

    private static void mean(DeafAuction x, String which, long upper, long lower) {
        Edge.due(which + ": upper", x.mean(0, 0), upper);
        Edge.due(which + ": lower", x.mean(0, 1), lower);
    }

    private static void meanOfAllSets() {
        Edge.of("Text 3", "MEAN: the PRICE of a LOT in the mean, if each BUYER comes, or not (its SEAT is empty then), all such sets alike");
        DeafAuction x = Check.in("a12;b20;b20");
        x.law(2);
        Check.worths(x, 0, 1, 0);
        mean(x, "0, 1, 0, 1", 1, 2);
        Check.worths(x, 0, 1, 1);
        mean(x, "0, 1, 1, 1", 3, 4);
        Check.worths(x, 0, 3, 2);
        mean(x, "0, 1, 1, 3", 5, 4);
        DeafAuction y = Check.in("a16;b20;b20;b20;b20;b20;b20");
        y.law(2);
        Check.worths(y, 0, 1, 1, 1, 1, 1, 1);
        mean(y, "1 unless nobody comes", 63, 64);
    }

    private static void meanOfEmptySeats() {
        Edge.of("Text 3", "(its SEAT is empty then)");
        DeafAuction x = Check.in("a23;b20;b20;h20");
        x.law(2);
        Check.worths(x, 0, 0, 0, 9);
        x.sit(2, 3);
        mean(x, "2 is seen if 0 does not come", 1, 4);
        // 0 and 2 without 1: 1, 2, 4, as 0 moves to the right. With 1: 1, 2, 3. Alone: 1.
        DeafAuction y = Check.in("a22;b20;b20;b20");
        y.law(1);
        Check.worths(y, 0, 4, 0, 4);
        mean(y, "0 moves if 1 does not come", 11, 8);
    }

    private static void meanInLeastTerms() {
        Edge.of("Promise 16", "MEAN (which 0 the upper, 1 the lower number)");
        DeafAuction x = Check.in("a12;b20;b20");
        x.law(2);
        mean(x, "nothing", 0, 1);
        Check.worths(x, 0, 2, 2);
        mean(x, "4 of 4", 1, 1);
        Check.worths(x, 0, 2, 0);
        mean(x, "2 of 4", 1, 2);
        x.law(0);
        mean(x, "4 of 4, by twos", 1, 1);
        Edge.due("of another lot", x.mean(3, 0), 0);
        Edge.due("of another lot", x.mean(3, 1), 1);
    }

    private static void hangsOnAnother() {
        Edge.of("Text 3", "HANGS: BUYERS without whom (alone) another one (or nobody) had the LOT, as a set");
        DeafAuction x = Check.in("a13;b20;b20;b20");
        x.law(2);
        Check.worths(x, 0, 5, 9, 9);
        Edge.due("2 has it; without 0 or 2 had 1", x.hangs(0), 1 + 4);
        Check.worths(x, 0, 9, 1, 1);
        Edge.due("0 has it; without 0 had 1", x.hangs(0), 1);
        DeafAuction y = Check.in("a23;b20;b20;h20");
        y.sit(2, 3);
        Check.worths(y, 0, 0, 0, 9);
        Edge.due("nobody has it; without 0 had 2", y.hangs(0), 1);
    }

    private static void hangsOnNobody() {
        Edge.of("Text 3", "(or nobody)");
        DeafAuction x = Check.in("a13;b20;b20;b20");
        Check.worths(x, 0, 0, 0, 5);
        Edge.due("2 has it; without 2 nobody", x.hangs(0), 4);
        Check.worths(x, 0, 0, 0, 0);
        Edge.due("nobody has it, whoever comes", x.hangs(0), 0);
    }

    private static void hangsAnswers() {
        Edge.of("Promise 17", "HANGS, as a set");
        DeafAuction x = Check.in("a16;b20;b20;b20;b20;b20;b20");
        for (int b = 0; b < 6; b++) {
            int lot = b % 4;
            x.worth(b, lot, 20);
            Edge.due("on " + b + " alone", x.hangs(lot), 1 << b);
            x.worth(b, lot, 0);
        }
    }
}
