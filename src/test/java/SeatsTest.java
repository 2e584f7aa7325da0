/** Promises 12 to 17: gains, best seats, orders, rings, means, whose coming it hangs on. */
public final class SeatsTest {
    private SeatsTest() {
    }

    public static void main(String[] args) {
        gain();
        best();
        order();
        ring();
        ringHides();
        mean();
        hangs();
        withoutHall();
        Check.finish();
    }

    private static void gain() {
        DeafAuction x = Check.in("a12;b30;n50");
        Check.worths(x, 0, 10, 12);
        Check.due(12, "who does not have it", x.gain(0, 0), 100);
        Check.due(12, "who has it at 9", x.gain(1, 0), 103);
        x.law(1);
        Check.due(12, "who has it at 10", x.gain(0, 0), 100);
        Check.worths(x, 0, 10, 4);
        Check.due(12, "who has it at 1", x.gain(0, 0), 109);
        Check.due(12, "a lot worth nothing", x.gain(0, 1), 100);
        Check.due(12, "gain(2, 0)", x.gain(2, 0), Check.UNKNOWN);
        Check.due(12, "gain(-1, 0)", x.gain(-1, 0), Check.UNKNOWN);
        Check.due(12, "gain(0, 4)", x.gain(0, 4), Check.UNKNOWN);
        Check.due(12, "gain(0, -1)", x.gain(0, -1), Check.UNKNOWN);
        // What one gains is by the worth, also where the purse is the limit.
        DeafAuction poor = Check.in("a12;b03;b01");
        Check.worths(poor, 0, 90, 1);
        Check.due(12, "a purse of 3", poor.gain(0, 0), 188);
    }

    private static void best() {
        DeafAuction x = Check.in("a14;b20;b20");
        Check.worths(x, 0, 0, 6);
        Check.due(13, "the least of seats 2, 3", x.best(1, 0, 0), 2);
        Check.due(13, "gain there", x.best(1, 0, 1), 105);
        x.law(1);
        Check.due(13, "its own", x.best(1, 0, 0), 1);
        Check.due(13, "gain there", x.best(1, 0, 1), 105);
        x.sit(1, 3);
        Check.due(13, "not the seat of 0", x.best(1, 0, 0), 1);
        x.sit(0, 2);
        Check.due(13, "of seats 0, 1 the least", x.best(1, 0, 0), 0);
        Check.due(13, "of no gain the least", x.best(0, 0, 0), 0);
        Check.due(13, "no gain", x.best(0, 0, 1), 100);
        Check.due(13, "1 sits as before", x.ofBuyer(1, 1), 3);
        Check.due(13, "best(2, 0, 2)", x.best(2, 0, 2), Check.UNKNOWN);
        Check.due(13, "best(-1, 0, 0)", x.best(-1, 0, 0), Check.UNKNOWN);
        Check.due(13, "best(0, 4, 2)", x.best(0, 4, 2), Check.UNKNOWN);
        Check.due(13, "best(0, -1, 0)", x.best(0, -1, 0), Check.UNKNOWN);
        Check.due(13, "best(0, 0, 2)", x.best(0, 0, 2), Check.OUTSIDE);
        Check.due(13, "best(0, 0, -1)", x.best(0, 0, -1), Check.OUTSIDE);
    }

    private static void ordered(DeafAuction x, int sum, int... lots) {
        Check.due(14, "what the best order brings", x.order(-1), sum);
        for (int q = 0; q < 4; q++) {
            Check.due(14, "lot " + q + " of the best order", x.order(q), lots[q]);
        }
    }

    private static void order() {
        DeafAuction x = Check.in("a12;b10;b20");
        x.law(2);
        ordered(x, 0, 0, 1, 2, 3);
        Check.worths(x, 0, 9, 9);
        Check.worths(x, 1, 10, 20);
        // Lot 0 first: 9 out of a purse of 10, then 2. Lot 1 first: 10 out of one of 20, then 9.
        ordered(x, 19, 1, 0, 2, 3);
        Check.worths(x, 0, 0, 0);
        Check.worths(x, 3, 9, 9);
        ordered(x, 19, 0, 1, 2, 3);
        Check.worths(x, 1, 9, 9);
        Check.worths(x, 3, 10, 20);
        ordered(x, 19, 0, 2, 3, 1);
        Check.due(14, "order(4)", x.order(4), Check.UNKNOWN);
        Check.due(14, "order(-2)", x.order(-2), Check.UNKNOWN);
    }

    private static void ring() {
        DeafAuction x = Check.in("a13;b20;b20;b20");
        x.law(2);
        Check.worths(x, 0, 5, 9, 9);
        int[] wants = {9, 9, 9, 9, 9, 9, 6, 1};
        for (int set = 0; set < 8; set++) {
            Check.due(15, "ring(" + set + ", 0)", x.ring(set, 0), wants[set]);
        }
        Check.due(15, "ring(8, 0)", x.ring(8, 0), Check.OUTSIDE);
        Check.due(15, "ring(-1, 0)", x.ring(-1, 0), Check.OUTSIDE);
        Check.due(15, "ring(least, 0)", x.ring(Check.LEAST, 0), Check.OUTSIDE);
        Check.due(15, "ring(8, 4)", x.ring(8, 4), Check.UNKNOWN);
        Check.due(15, "ring(0, -1)", x.ring(0, -1), Check.UNKNOWN);
        DeafAuction y = Check.in("a14;b20;b20;n20");
        Check.worths(y, 0, 0, 9, 11);
        Check.due(15, "of like limits the least number", y.ring(6, 0), 2);
        Check.worths(y, 0, 0, 9, 12);
        Check.due(15, "the greatest limit", y.ring(6, 0), 1);
        Check.worths(y, 0, 0, 9, 10);
        Check.due(15, "limits, not worths", y.ring(6, 0), 2);
        Check.due(15, "a sale is as it was", y.sale(0, 0), 9);
    }

    private static void ringHides() {
        DeafAuction x = Check.in("a23;b20;b20;h20");
        Check.worths(x, 0, 5, 9, 9);
        x.sit(2, 3);
        Check.due(15, "who holds back still sits ahead of 2", x.ring(3, 0), 1);
    }

    private static void mean(DeafAuction x, String which, int upper, int lower) {
        Check.due(16, which + ": upper", x.mean(0, 0), upper);
        Check.due(16, which + ": lower", x.mean(0, 1), lower);
    }

    private static void mean() {
        DeafAuction x = Check.in("a12;b10;b10");
        x.law(2);
        mean(x, "worth nothing", 0, 1);
        Check.worths(x, 0, 3, 2);
        mean(x, "0, 1, 1, 3", 5, 4);
        Check.worths(x, 0, 1, 1);
        mean(x, "0, 1, 1, 1", 3, 4);
        Check.worths(x, 0, 2, 2);
        mean(x, "0, 1, 1, 2", 1, 1);
        Check.worths(x, 0, 1, 0);
        mean(x, "0, 1, 0, 1", 1, 2);
        DeafAuction y = Check.in("a23;b20;b20;h20");
        y.law(2);
        Check.worths(y, 0, 0, 0, 9);
        y.sit(2, 3);
        mean(y, "2 is seen if 0 does not come", 1, 4);
        Check.due(16, "mean(4, 2)", y.mean(4, 2), Check.LOST);
        Check.due(16, "mean(-1, 0)", y.mean(-1, 0), Check.LOST);
        Check.due(16, "mean(0, 2)", y.mean(0, 2), Check.LOST);
        Check.due(16, "mean(0, -1)", y.mean(0, -1), Check.LOST);
    }

    private static void hangs() {
        DeafAuction x = Check.in("a13;b20;b20;b20");
        x.law(2);
        Check.due(17, "nobody has it either way", x.hangs(0), 0);
        Check.worths(x, 0, 5, 9, 9);
        Check.due(17, "2 has it, without 0 had 1", x.hangs(0), 5);
        Check.worths(x, 0, 5, 0, 0);
        Check.due(17, "without 0 had nobody", x.hangs(0), 1);
        DeafAuction y = Check.in("a23;b20;b20;h20");
        Check.worths(y, 0, 0, 0, 9);
        y.sit(2, 3);
        Check.due(17, "nobody has it, without 0 had 2", y.hangs(0), 1);
        Check.due(17, "hangs(4)", y.hangs(4), Check.UNKNOWN);
        Check.due(17, "hangs(-1)", y.hangs(-1), Check.UNKNOWN);
    }

    private static void withoutHall() {
        DeafAuction x = new DeafAuction();
        Check.due(12, "gain(0, 0), no hall", x.gain(0, 0), Check.UNKNOWN);
        Check.due(13, "best(0, 0, 2), no hall", x.best(0, 0, 2), Check.UNKNOWN);
        Check.due(14, "order(4), no hall", x.order(4), Check.UNKNOWN);
        Check.due(14, "order(0), no hall", x.order(0), Check.STATE);
        Check.due(15, "ring(1, 4), no hall", x.ring(1, 4), Check.UNKNOWN);
        Check.due(15, "ring(1, 0), no hall", x.ring(1, 0), Check.OUTSIDE);
        Check.due(15, "ring(0, 0), no hall", x.ring(0, 0), Check.STATE);
        Check.due(16, "mean(0, 1), no hall", x.mean(0, 1), Check.LOST);
        Check.due(17, "hangs(4), no hall", x.hangs(4), Check.UNKNOWN);
        Check.due(17, "hangs(0), no hall", x.hangs(0), Check.STATE);
        Check.due(31, "none of these names faults", x.fault(), 0);
    }
}
