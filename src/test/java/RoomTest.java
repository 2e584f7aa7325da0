import java.lang.management.ManagementFactory;

/** What calls make is counted: of all calls only a hall that is taken makes anything. */
public final class RoomTest {
    private static final int CALLS = 512;
    /** A buyer and its row of worths: 6 of them, some 100 bytes each. */
    private static final int BYTES_OF_HALL = 6 * 100;
    private static final int SLACK = 20_000;

    private RoomTest() {
    }

    public static void main(String[] args) {
        DeafAuction x = Check.in("a46;n99;n99;n99;n99;n99;n99");
        for (int lot = 0; lot < 4; lot++) {
            Check.worths(x, lot, 99, 99, 99, 99, 99, 99);
            x.reading(lot, 97);
        }
        Check.fill(x, 1, 2, 3, 2, 1, 0);
        madeByAll(x);
        long made = madeByAll(x);
        Check.due(0, "all calls make nothing (" + made + " bytes)", made < SLACK ? 1 : 0, 1);
        long before = bytes();
        for (int t = 0; t < CALLS; t++) {
            x.hall(0, 2, 0, 27);
        }
        made = bytes() - before;
        Check.due(0, "halls make little (" + made + " bytes)", made < CALLS * BYTES_OF_HALL + SLACK ? 1 : 0, 1);
        Check.finish();
    }

    private static long bytes() {
        com.sun.management.ThreadMXBean bean =
                (com.sun.management.ThreadMXBean) ManagementFactory.getThreadMXBean();
        return bean.getCurrentThreadAllocatedBytes();
    }

    private static long madeByAll(DeafAuction x) {
        long before = bytes();
        long sum = 0;
        for (int t = 0; t < CALLS; t++) {
            int lot = t & 3;
            int b = t % 6;
            sum += x.ofBuyer(b, lot) + x.worth(b, lot, 99) + x.limit(b, lot) + x.sit(b, b) + x.law(2);
            sum += x.sale(lot, 0) + x.bid(lot, t) + x.ends(b, lot) + x.row(b, 1, 2, 0, 4);
            sum += x.gain(b, lot) + x.best(b, lot, 0) + x.order(-1) + x.ring(63, lot) + x.mean(lot, 0);
            sum += x.hangs(lot) + x.back(1) + x.reading(3, 97) + x.values(b, lot, -1) + x.places(b);
            sum += x.sheet(2, 2, 60) + x.put(2, 59, t) + x.cell(2, 59, 2) + x.copy(2, 1, 2, 0, 59);
            sum += x.lose(2) + x.tell(b) + x.nod(b) + x.as(b, 2) + x.trace() + x.fault() + x.many(0);
            sum += x.hall(0, 2, 0, 26);
        }
        Check.due(0, "the calls were not left out", sum != 0 ? 1 : 0, 1);
        return bytes() - before;
    }
}
