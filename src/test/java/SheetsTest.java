/** Promises 22 to 32: sheets, tellings, nods, kinds, trace, fault, how many. */
public final class SheetsTest {
    private SheetsTest() {
    }

    public static void main(String[] args) {
        sheet();
        lose();
        put();
        cut();
        cell();
        copy();
        copyFaults();
        tell();
        nod();
        as();
        traceWraps();
        faultStays();
        many();
        Check.finish();
    }

    private static void due(DeafAuction x, int promise, String call, long got, long want, int fault) {
        Check.due(promise, call, got, want);
        Check.due(31, "fault() after " + call, x.fault(), fault);
    }

    private static void sheet() {
        DeafAuction x = new DeafAuction();
        due(x, 22, "sheet(0, 0, 60)", x.sheet(0, 0, 60), 1, 0);
        due(x, 22, "put(0, 59, 7)", x.put(0, 59, 7), 1, 0);
        due(x, 22, "put(0, 60, 7)", x.put(0, 60, 7), Check.INDEX, 3);
        due(x, 22, "sheet(3, 2, 0)", x.sheet(3, 2, 0), 1, 0);
        due(x, 22, "put(3, 0, 7)", x.put(3, 0, 7), Check.INDEX, 3);
        due(x, 22, "sheet(4, 3, 61)", x.sheet(4, 3, 61), Check.UNKNOWN, 0);
        due(x, 22, "sheet(-1, 0, 1)", x.sheet(-1, 0, 1), Check.UNKNOWN, 0);
        due(x, 22, "sheet(0, 3, -1)", x.sheet(0, 3, -1), Check.OUTSIDE, 0);
        due(x, 22, "sheet(0, -1, -1)", x.sheet(0, -1, -1), Check.OUTSIDE, 0);
        due(x, 22, "sheet(0, 0, 61)", x.sheet(0, 0, 61), Check.OUTSIDE, 0);
        due(x, 22, "sheet(0, 0, most)", x.sheet(0, 0, Check.MOST), Check.OUTSIDE, 0);
        due(x, 22, "sheet(0, 1, -1)", x.sheet(0, 1, -1), Check.SIZE, 4);
        due(x, 22, "sheet(0, 1, least)", x.sheet(0, 1, Check.LEAST), Check.SIZE, 4);
        due(x, 22, "the row is as it was", x.cell(0, 59, 0), 7, 0);
        due(x, 22, "a new row", x.sheet(0, 0, 60), 1, 0);
        for (int i = 0; i < 60; i++) {
            due(x, 22, "is of 0", x.cell(0, i, 0), 0, 0);
        }
    }

    private static void lose() {
        DeafAuction x = new DeafAuction();
        x.sheet(2, 1, 0);
        due(x, 23, "cell(3, 0, 0)", x.cell(3, 0, 0), Check.LOST, 1);
        due(x, 23, "an empty row is something", x.lose(2), 1, 1);
        due(x, 23, "it had nothing", x.lose(2), 0, 1);
        due(x, 23, "lose(4)", x.lose(4), Check.UNKNOWN, 1);
        due(x, 23, "lose(-1)", x.lose(-1), Check.UNKNOWN, 1);
        due(x, 23, "put(2, 0, 1)", x.put(2, 0, 1), Check.NULL, 1);
        x.sheet(2, 1, 1);
        due(x, 23, "a row again", x.cell(2, 0, 1), 0, 0);
    }

    private static void put() {
        DeafAuction x = new DeafAuction();
        due(x, 24, "put(4, -1, 0)", x.put(4, -1, 0), Check.UNKNOWN, 0);
        due(x, 24, "put(-1, 0, 0)", x.put(-1, 0, 0), Check.UNKNOWN, 0);
        due(x, 24, "put(0, -1, 0)", x.put(0, -1, 0), Check.NULL, 1);
        x.sheet(0, 2, 3);
        due(x, 24, "put(0, -1, 0)", x.put(0, -1, 0), Check.INDEX, 3);
        due(x, 24, "put(0, 3, 0)", x.put(0, 3, 0), Check.INDEX, 3);
        due(x, 24, "put(0, most, 0)", x.put(0, Check.MOST, 0), Check.INDEX, 3);
        due(x, 24, "put(0, least, 0)", x.put(0, Check.LEAST, 0), Check.INDEX, 3);
        due(x, 24, "put(0, 1, 5)", x.put(0, 1, 5), 1, 0);
        due(x, 24, "beside it", x.cell(0, 0, 2), 0, 0);
        due(x, 24, "it", x.cell(0, 1, 2), 5, 0);
        due(x, 24, "beside it", x.cell(0, 2, 2), 0, 0);
    }

    private static void cut() {
        DeafAuction x = new DeafAuction();
        int[] numbers = {127, 128, 255, 256, -128, -129, 32767, 32768, 65535, 65536, -32769, Check.MOST, Check.LEAST};
        for (int lane = 0; lane < 3; lane++) {
            x.sheet(lane, lane, 1);
            for (int v : numbers) {
                long want = lane == 0 ? (byte) v : lane == 1 ? (short) v : v;
                due(x, 24, "put(" + lane + ", 0, " + v + ")", x.put(lane, 0, v), 1, 0);
                due(x, 25, v + " in lane " + lane, x.cell(lane, 0, lane), want, 0);
            }
        }
    }

    private static void cell() {
        DeafAuction x = new DeafAuction();
        due(x, 25, "cell(4, 0, 3)", x.cell(4, 0, 3), Check.LOST, 0);
        due(x, 25, "cell(-1, 0, 0)", x.cell(-1, 0, 0), Check.LOST, 0);
        due(x, 25, "cell(0, 0, 3)", x.cell(0, 0, 3), Check.LOST, 0);
        due(x, 25, "cell(0, 0, -1)", x.cell(0, 0, -1), Check.LOST, 0);
        due(x, 25, "nothing is no cast", x.cell(0, -1, 1), Check.LOST, 1);
        x.sheet(0, 1, 2);
        x.put(0, 1, -5);
        due(x, 25, "cell(0, 0, 3)", x.cell(0, 0, 3), Check.LOST, 0);
        due(x, 25, "cell(0, -1, 0)", x.cell(0, -1, 0), Check.LOST, 2);
        due(x, 25, "cell(0, 0, 2)", x.cell(0, 0, 2), Check.LOST, 2);
        due(x, 25, "cell(0, -1, 1)", x.cell(0, -1, 1), Check.LOST, 3);
        due(x, 25, "cell(0, 2, 1)", x.cell(0, 2, 1), Check.LOST, 3);
        due(x, 25, "cell(0, most, 1)", x.cell(0, Check.MOST, 1), Check.LOST, 3);
        due(x, 25, "cell(0, 1, 1)", x.cell(0, 1, 1), -5, 0);
    }

    private static void row(DeafAuction x, int k, int... wants) {
        for (int i = 0; i < wants.length; i++) {
            Check.due(26, "cell " + i + " of sheet " + k, x.cell(k, i, 1), wants[i]);
        }
    }

    private static void copy() {
        DeafAuction x = new DeafAuction();
        Check.fill(x, 0, 1, 1, 2, 3, 4, 5);
        Check.fill(x, 1, 1, 6, 7, 8);
        due(x, 26, "to another one", x.copy(0, 3, 1, 0, 2), 2, 0);
        row(x, 1, 4, 5, 8);
        row(x, 0, 1, 2, 3, 4, 5);
        due(x, 26, "on to itself, forward", x.copy(0, 0, 0, 1, 4), 4, 0);
        row(x, 0, 1, 1, 2, 3, 4);
        due(x, 26, "on to itself, back", x.copy(0, 1, 0, 0, 4), 4, 0);
        row(x, 0, 1, 2, 3, 4, 4);
        due(x, 26, "no cell at the ends", x.copy(0, 5, 1, 3, 0), 0, 0);
        row(x, 1, 4, 5, 8);
    }

    private static void copyFaults() {
        DeafAuction x = new DeafAuction();
        Check.fill(x, 0, 1, 1, 2, 3, 4, 5);
        Check.fill(x, 1, 1, 6, 7, 8);
        Check.fill(x, 2, 2, 6, 7, 8);
        due(x, 26, "copy(4, ..)", x.copy(4, 0, 3, 0, 0), Check.UNKNOWN, 0);
        due(x, 26, "copy(-1, ..)", x.copy(-1, 0, 0, 0, 0), Check.UNKNOWN, 0);
        due(x, 26, "copy(3, 0, 4, ..)", x.copy(3, 0, 4, 0, 0), Check.UNKNOWN, 0);
        due(x, 26, "copy(3, 0, -1, ..)", x.copy(3, 0, -1, 0, 0), Check.UNKNOWN, 0);
        due(x, 26, "the first has nothing", x.copy(3, -1, 2, 0, 0), Check.NULL, 1);
        due(x, 26, "the other has nothing", x.copy(2, -1, 3, 0, 0), Check.NULL, 1);
        due(x, 26, "unlike lanes", x.copy(1, -1, 2, -1, -1), Check.CAST, 2);
        due(x, 26, "unlike lanes, no cell", x.copy(2, 0, 1, 0, 0), Check.CAST, 2);
        due(x, 26, "i below 0", x.copy(0, -1, 1, 0, 0), Check.INDEX, 3);
        due(x, 26, "j below 0", x.copy(0, 0, 1, -1, 0), Check.INDEX, 3);
        due(x, 26, "n below 0", x.copy(0, 0, 1, 0, -1), Check.INDEX, 3);
        due(x, 26, "n far below 0", x.copy(0, 0, 1, 0, Check.LEAST), Check.INDEX, 3);
        due(x, 26, "i beyond", x.copy(0, 6, 1, 0, 0), Check.INDEX, 3);
        due(x, 26, "j beyond", x.copy(0, 0, 1, 4, 0), Check.INDEX, 3);
        due(x, 26, "n beyond the first", x.copy(1, 1, 0, 0, 3), Check.INDEX, 3);
        due(x, 26, "n beyond the other", x.copy(0, 0, 1, 1, 3), Check.INDEX, 3);
        due(x, 26, "n far beyond", x.copy(0, 1, 1, 1, Check.MOST), Check.INDEX, 3);
        due(x, 26, "i far beyond", x.copy(0, Check.MOST, 1, 1, 1), Check.INDEX, 3);
        row(x, 1, 6, 7, 8);
        row(x, 0, 1, 2, 3, 4, 5);
    }

    private static int leave(int trace, int... bodies) {
        for (int body : bodies) {
            trace = 31 * trace + body;
        }
        return trace;
    }

    private static void tell() {
        DeafAuction x = new DeafAuction();
        Check.due(27, "tell(0), no hall", x.tell(0), Check.UNKNOWN);
        x = Check.in("a13;b30;h40;n50");
        int trace = 0;
        Check.due(27, "tell(0)", x.tell(0), 30);
        trace = leave(trace, 1);
        Check.due(30, "trace()", x.trace(), trace);
        Check.due(27, "tell(1)", x.tell(1), 140);
        trace = leave(trace, 2, 1);
        Check.due(30, "trace()", x.trace(), trace);
        Check.due(27, "tell(2)", x.tell(2), 200);
        trace = leave(trace, 3, 2, 1, 1);
        Check.due(30, "trace()", x.trace(), trace);
        Check.due(27, "tell(3)", x.tell(3), Check.UNKNOWN);
        Check.due(27, "tell(-1)", x.tell(-1), Check.UNKNOWN);
        Check.due(30, "trace()", x.trace(), trace);
    }

    private static void nod() {
        DeafAuction x = new DeafAuction();
        Check.due(28, "nod(0), no hall", x.nod(0), Check.UNKNOWN);
        x = Check.in("a13;n30;h40;b50");
        int trace = 0;
        Check.due(28, "nod(0)", x.nod(0), 80);
        trace = leave(trace, 5);
        Check.due(30, "trace()", x.trace(), trace);
        Check.due(28, "nod(1)", x.nod(1), 1);
        trace = leave(trace, 4);
        Check.due(30, "trace()", x.trace(), trace);
        Check.due(28, "nod(2)", x.nod(2), 2);
        trace = leave(trace, 4);
        Check.due(30, "trace()", x.trace(), trace);
        Check.due(28, "nod(3)", x.nod(3), Check.UNKNOWN);
        Check.due(28, "nod(-1)", x.nod(-1), Check.UNKNOWN);
        Check.due(30, "trace()", x.trace(), trace);
    }

    private static void as() {
        DeafAuction x = new DeafAuction();
        due(x, 29, "as(0, 3), no hall", x.as(0, 3), Check.UNKNOWN, 0);
        x = Check.in("a13;b30;h40;n50");
        for (int b = 0; b < 3; b++) {
            for (int kind = 0; kind < 3; kind++) {
                boolean fits = kind <= b;
                String call = "as(" + b + ", " + kind + ")";
                due(x, 29, call, x.as(b, kind), fits ? 1 : Check.CAST, fits ? 0 : 2);
            }
            due(x, 29, "as(" + b + ", 3)", x.as(b, 3), Check.OUTSIDE, 0);
            due(x, 29, "as(" + b + ", -1)", x.as(b, -1), Check.OUTSIDE, 0);
        }
        due(x, 29, "as(3, 3)", x.as(3, 3), Check.UNKNOWN, 0);
        due(x, 29, "as(-1, 0)", x.as(-1, 0), Check.UNKNOWN, 0);
    }

    private static void traceWraps() {
        DeafAuction x = Check.in("a12;n99;n99");
        int trace = 0;
        for (int t = 0; t < 100; t++) {
            x.tell(0);
            trace = leave(trace, 3, 2, 1, 1);
            Check.due(30, "trace()", x.trace(), trace);
        }
    }

    /** Calls that name no faults leave the latest one as it is; all others tell their own. */
    private static void faultStays() {
        DeafAuction x = Check.in("a12;b10;h20");
        x.sheet(3, 0, -1);
        long[] others = {x.ofBuyer(0, 0), x.worth(0, 0, 0), x.limit(0, 0), x.sit(0, 0), x.law(0),
            x.sale(0, 0), x.bid(0, 0), x.ends(0, 0), x.gain(0, 0), x.best(0, 0, 0), x.order(0),
            x.ring(0, 0), x.mean(0, 0), x.hangs(0), x.reading(0, 0), x.back(0),
            x.values(0, 0, 0), x.places(0), x.lose(3), x.tell(0), x.nod(0), x.trace(), x.many(0),
            x.ofBuyer(9, 0), x.law(9), x.sale(9, 0), x.mean(9, 0), x.lose(9), x.tell(9), x.many(9)};
        Check.due(31, "after " + others.length + " other calls", x.fault(), 4);
        Check.due(31, "again", x.fault(), 4);
        due(x, 31, "as(0, 0)", x.as(0, 0), 1, 0);
        due(x, 31, "as(0, 1)", x.as(0, 1), Check.CAST, 2);
        due(x, 31, "put(9, 0, 0)", x.put(9, 0, 0), Check.UNKNOWN, 0);
        due(x, 31, "as(0, 1)", x.as(0, 1), Check.CAST, 2);
        due(x, 31, "hall of no text", x.hall(0, 2, 0, 0), -100, 0);
        due(x, 31, "as(0, 1)", x.as(0, 1), Check.CAST, 2);
        due(x, 31, "row(9, ..)", x.row(9, 0, 2, 0, 0), Check.UNKNOWN, 0);
        due(x, 31, "as(0, 1)", x.as(0, 1), Check.CAST, 2);
        due(x, 31, "row of no lots", x.row(-1, 0, 2, 0, 0), 0, 0);
        due(x, 31, "as(0, 1)", x.as(0, 1), Check.CAST, 2);
        due(x, 31, "row of no lot", x.row(-1, 0, 2, 0, 1), Check.UNKNOWN, 0);
        due(x, 31, "as(0, 1)", x.as(0, 1), Check.CAST, 2);
        due(x, 31, "copy", x.copy(0, 0, 0, 0, 1), 1, 0);
        due(x, 31, "as(0, 1)", x.as(0, 1), Check.CAST, 2);
        due(x, 31, "cell", x.cell(0, 0, 2), 'a', 0);
    }

    private static void many() {
        DeafAuction x = new DeafAuction();
        Check.due(32, "many(4), no hall", x.many(4), Check.OUTSIDE);
        Check.due(32, "many(-1), no hall", x.many(-1), Check.OUTSIDE);
        x = Check.in("a35;b10;h20;n30");
        x.law(2);
        x.reading(0, 0);
        Check.due(32, "many(0)", x.many(0), 3);
        Check.due(32, "many(1)", x.many(1), 15);
        Check.due(32, "many(2)", x.many(2), 2);
        Check.due(32, "many(3)", x.many(3), 1);
        Check.due(32, "many(4)", x.many(4), Check.OUTSIDE);
        Check.due(32, "many(-1)", x.many(-1), Check.OUTSIDE);
    }
}
