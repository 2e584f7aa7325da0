import java.util.List;
import java.util.function.ToLongFunction;

/** The edges of text 5 and of promises 22 to 32, each by a test of its own, on new objects. */
final class SheetEdges {
    private SheetEdges() {
    }

    static void run() {
        sheets();
        lengths();
        zerosAtFirst();
        bytes();
        shorts();
        ints();
        sheet();
        tooLong();
        belowZero();
        lose();
        put();
        cell();
        nothingIsNoCast();
        copyAsTheyWere();
        copyOfNone();
        copyOfAll();
        copyBeyond();
        copyNullFirst();
        tellBuyer();
        tellHatted();
        tellNervous();
        nod();
        traceWraps();
        as();
        trace();
        fault();
        faultOfRefused();
        many();
    }

    private static void sheets() {
        Edge.of("Text 5", "SHEETS 0 .. 3 have nothing (at first)");
        DeafAuction x = new DeafAuction();
        for (int k = 0; k < 4; k++) {
            for (int lane = 0; lane < 3; lane++) {
                Edge.due(x, "cell of sheet " + k, x.cell(k, 0, lane), Check.LOST, 1);
            }
        }
        Edge.due(x, "sheet -1", x.sheet(-1, 0, 1), Check.UNKNOWN, 0);
        Edge.due(x, "sheet 4", x.sheet(4, 0, 1), Check.UNKNOWN, 0);
        for (int k = 0; k < 4; k++) {
            Edge.due(x, "sheet " + k, x.sheet(k, k % 3, 1), 1, 0);
            x.put(k, 0, 10 + k);
        }
        for (int k = 0; k < 4; k++) {
            Edge.due(x, "each its own row, " + k, x.cell(k, 0, k % 3), 10 + k, 0);
        }
    }

    private static void lengths() {
        for (int lane = 0; lane < 3; lane++) {
            Edge.of("Text 5", "or a row of 0 .. 60 numbers");
            for (int n = 0; n <= 60; n++) {
                DeafAuction x = new DeafAuction();
                Edge.due(x, "a row of " + n, x.sheet(1, lane, n), 1, 0);
                Edge.due(x, "below the first", x.put(1, -1, 5), Check.INDEX, 3);
                Edge.due(x, "beyond the last of " + n, x.put(1, n, 5), Check.INDEX, 3);
                Edge.due(x, "the last of " + n, x.put(1, n - 1, 5), n == 0 ? Check.INDEX : 1, n == 0 ? 3 : 0);
                Edge.due(x, "it is there", x.cell(1, n - 1, lane), n == 0 ? Check.LOST : 5, n == 0 ? 3 : 0);
            }
        }
    }

    private static void zerosAtFirst() {
        Edge.of("Text 5", "(0 at first)");
        for (int lane = 0; lane < 3; lane++) {
            DeafAuction x = new DeafAuction();
            x.sheet(2, lane, 60);
            for (int i = 0; i < 60; i++) {
                Edge.due("cell " + i, x.cell(2, i, lane), 0);
                x.put(2, i, 7);
            }
            x.sheet(2, lane, 1);
            Edge.due("a shorter row", x.cell(2, 0, lane), 0);
            x.put(2, 0, 7);
            x.sheet(2, (lane + 1) % 3, 60);
            for (int i = 0; i < 60; i++) {
                Edge.due("a longer row of another lane, cell " + i, x.cell(2, i, (lane + 1) % 3), 0);
                x.put(2, i, 7);
            }
            x.lose(2);
            x.sheet(2, lane, 60);
            for (int i = 0; i < 60; i++) {
                Edge.due("a row again, cell " + i, x.cell(2, i, lane), 0);
            }
        }
    }

    /** Pairs of a number that is put in a cell of a lane, and what the cell has then. */
    private static void cut(int lane, int... pairs) {
        DeafAuction x = new DeafAuction();
        x.sheet(0, lane, 2);
        for (int p = 0; p < pairs.length; p += 2) {
            Edge.due(x, "put " + pairs[p], x.put(0, 1, pairs[p]), 1, 0);
            Edge.due(x, "cell after put " + pairs[p], x.cell(0, 1, lane), pairs[p + 1], 0);
        }
    }

    private static void bytes() {
        Edge.of("Text 5", "of a LANE: 0 bytes");
        cut(0, 0, 0, 127, 127, 128, -128, 129, -127, 255, -1, 256, 0, 257, 1, -1, -1, -128, -128,
                -129, 127, -256, 0, -257, -1, 32767, -1, 32768, 0, Check.MOST, -1, Check.LEAST, 0);
    }

    private static void shorts() {
        Edge.of("Text 5", "1 shorts");
        cut(1, 0, 0, 127, 127, 128, 128, -129, -129, 32767, 32767, 32768, -32768, 32769, -32767,
                65535, -1, 65536, 0, 65537, 1, -32768, -32768, -32769, 32767, -65536, 0,
                Check.MOST, -1, Check.LEAST, 0);
    }

    private static void ints() {
        Edge.of("Text 5", "2 ints");
        cut(2, 0, 0, 128, 128, 32768, 32768, 65536, 65536, -32769, -32769,
                Check.MOST, Check.MOST, Check.LEAST, Check.LEAST, -1, -1);
        Edge.of("Text 5", "what comes to a cell of it is cut to its LANE");
        DeafAuction x = new DeafAuction();
        for (int lane = 0; lane < 3; lane++) {
            x.sheet(lane, lane, 1);
            x.put(lane, 0, 0x12348765);
        }
        Edge.due("a byte", x.cell(0, 0, 0), 0x65);
        Edge.due("a short", x.cell(1, 0, 1), 0x8765 - 0x10000);
        Edge.due("an int", x.cell(2, 0, 2), 0x12348765);
    }

    private static void sheet() {
        Edge.of("Promise 22", "A SHEET gets a new row: 1");
        DeafAuction x = new DeafAuction();
        Edge.due(x, "where there was nothing", x.sheet(3, 2, 2), 1, 0);
        x.put(3, 1, 9);
        Edge.due(x, "where there was one", x.sheet(3, 2, 2), 1, 0);
        Edge.due(x, "it is new", x.cell(3, 1, 2), 0, 0);
        Edge.due(x, "of another lane", x.sheet(3, 0, 2), 1, 0);
        Edge.due(x, "the lane it was of", x.cell(3, 1, 2), Check.LOST, 2);
        Edge.due(x, "the lane it is of", x.cell(3, 1, 0), 0, 0);
        Edge.due(x, "of no cells", x.sheet(3, 0, 0), 1, 0);
        Edge.due(x, "that is not nothing", x.cell(3, 0, 0), Check.LOST, 3);
    }

    private static void tooLong() {
        Edge.of("Promise 22", "OUTSIDE: lane, n above 60");
        DeafAuction x = new DeafAuction();
        Edge.due(x, "60", x.sheet(0, 1, 60), 1, 0);
        x.put(0, 59, 4);
        Edge.due(x, "61", x.sheet(0, 1, 61), Check.OUTSIDE, 0);
        Edge.due(x, "the most", x.sheet(0, 1, Check.MOST), Check.OUTSIDE, 0);
        Edge.due(x, "lane 3", x.sheet(0, 3, 60), Check.OUTSIDE, 0);
        Edge.due(x, "lane -1", x.sheet(0, -1, 60), Check.OUTSIDE, 0);
        Edge.due(x, "the row stays", x.cell(0, 59, 1), 4, 0);
    }

    private static void belowZero() {
        Edge.of("Promise 22", "SIZE");
        DeafAuction x = new DeafAuction();
        x.sheet(0, 1, 1);
        x.put(0, 0, 4);
        Edge.due(x, "-1", x.sheet(0, 2, -1), Check.SIZE, 4);
        Edge.due(x, "the least", x.sheet(0, 2, Check.LEAST), Check.SIZE, 4);
        Edge.due(x, "the row stays", x.cell(0, 0, 1), 4, 0);
        Edge.due(x, "-1 where there is nothing", x.sheet(1, 0, -1), Check.SIZE, 4);
        Edge.due(x, "nothing stays", x.lose(1), 0, 4);
        Edge.due(x, "-1 of lane 3", x.sheet(0, 3, -1), Check.OUTSIDE, 0);
    }

    private static void lose() {
        Edge.of("Promise 23", "A SHEET has nothing: 1");
        DeafAuction x = new DeafAuction();
        for (int k = 0; k < 4; k++) {
            x.sheet(k, 2, 0);
            Edge.due("an empty row of " + k, x.lose(k), 1);
            Edge.of("Promise 23", "0: it had nothing");
            Edge.due("again", x.lose(k), 0);
            Edge.due(x, "put in " + k, x.put(k, 0, 0), Check.NULL, 1);
            Edge.of("Promise 23", "A SHEET has nothing: 1");
            x.sheet(k, 0, 60);
            Edge.due("a full row of " + k, x.lose(k), 1);
        }
    }

    private static void put() {
        Edge.of("Promise 24", "Cell i of a SHEET becomes v: 1");
        DeafAuction x = new DeafAuction();
        x.sheet(1, 2, 3);
        for (int i = 0; i < 3; i++) {
            Edge.due(x, "cell " + i, x.put(1, i, 5 + i), 1, 0);
        }
        Edge.due(x, "the first again", x.put(1, 0, -5), 1, 0);
        Edge.due(x, "it is so", x.cell(1, 0, 2), -5, 0);
        Edge.due(x, "the next is as it was", x.cell(1, 1, 2), 6, 0);
        Edge.due(x, "so is the last", x.cell(1, 2, 2), 7, 0);
    }

    private static void cell() {
        Edge.of("Promise 25", "Cell i of what a SHEET has, taken as a row of a LANE");
        for (int lane = 0; lane < 3; lane++) {
            DeafAuction x = new DeafAuction();
            Check.fill(x, 2, lane, -1, -2, -3);
            for (int as = 0; as < 3; as++) {
                for (int i = 0; i < 3; i++) {
                    boolean own = as == lane;
                    String call = "cell " + i + " of lane " + lane + " as " + as;
                    Edge.due(x, call, x.cell(2, i, as), own ? -1 - i : Check.LOST, own ? 0 : 2);
                }
            }
        }
    }

    private static void nothingIsNoCast() {
        Edge.of("Promise 25", "FAULTS CAST (nothing is no CAST), NULL, INDEX");
        DeafAuction x = new DeafAuction();
        x.sheet(0, 1, 1);
        for (int lane = 0; lane < 3; lane++) {
            Edge.due(x, "nothing as lane " + lane, x.cell(1, 0, lane), Check.LOST, 1);
            Edge.due(x, "nothing as lane " + lane + ", i -1", x.cell(1, -1, lane), Check.LOST, 1);
        }
        Edge.due(x, "another lane, i -1", x.cell(0, -1, 2), Check.LOST, 2);
        Edge.due(x, "i -1", x.cell(0, -1, 1), Check.LOST, 3);
        Edge.due(x, "i 1", x.cell(0, 1, 1), Check.LOST, 3);
        Edge.due(x, "i 0", x.cell(0, 0, 1), 0, 0);
    }

    private static void rowIs(DeafAuction x, int k, int... wants) {
        for (int i = 0; i < wants.length; i++) {
            Edge.due("cell " + i + " of sheet " + k, x.cell(k, i, 1), wants[i]);
        }
    }

    private static void copyAsTheyWere() {
        Edge.of("Promise 26", "n cells of a SHEET from i on go to another one (perhaps the same) from j on, as they were: n");
        DeafAuction x = new DeafAuction();
        Check.fill(x, 0, 1, 1, 2, 3, 4, 5);
        Check.fill(x, 1, 1, 6, 7, 8);
        Edge.due(x, "to another one", x.copy(0, 2, 1, 1, 2), 2, 0);
        rowIs(x, 0, 1, 2, 3, 4, 5);
        rowIs(x, 1, 6, 3, 4);
        Edge.due(x, "to the same, one on", x.copy(0, 0, 0, 1, 4), 4, 0);
        rowIs(x, 0, 1, 1, 2, 3, 4);
        Edge.due(x, "to the same, one back", x.copy(0, 1, 0, 0, 4), 4, 0);
        rowIs(x, 0, 1, 2, 3, 4, 4);
        Edge.due(x, "to the same place", x.copy(0, 1, 0, 1, 3), 3, 0);
        rowIs(x, 0, 1, 2, 3, 4, 4);
    }

    private static void copyOfNone() {
        Edge.of("Promise 26", "INDEX: i, j, n below 0 or beyond");
        DeafAuction x = new DeafAuction();
        Check.fill(x, 0, 1, 1, 2);
        Check.fill(x, 1, 1, 3);
        Check.fill(x, 2, 1);
        Edge.due(x, "none from the end to the end", x.copy(0, 2, 1, 1, 0), 0, 0);
        Edge.due(x, "none of none", x.copy(2, 0, 2, 0, 0), 0, 0);
        Edge.due(x, "none, i beyond", x.copy(0, 3, 1, 0, 0), Check.INDEX, 3);
        Edge.due(x, "none, j beyond", x.copy(0, 0, 1, 2, 0), Check.INDEX, 3);
        Edge.due(x, "none, i below 0", x.copy(0, -1, 1, 0, 0), Check.INDEX, 3);
        Edge.due(x, "none, j below 0", x.copy(0, 0, 1, -1, 0), Check.INDEX, 3);
        Edge.due(x, "n below 0", x.copy(0, 1, 1, 1, -1), Check.INDEX, 3);
        Edge.due(x, "one of none", x.copy(2, 0, 0, 0, 1), Check.INDEX, 3);
        Edge.due(x, "one to none", x.copy(0, 0, 2, 0, 1), Check.INDEX, 3);
        rowIs(x, 0, 1, 2);
        rowIs(x, 1, 3);
    }

    private static void copyOfAll() {
        Edge.of("Promise 26", "as they were: n");
        DeafAuction x = new DeafAuction();
        x.sheet(0, 1, 60);
        x.sheet(3, 1, 60);
        for (int i = 0; i < 60; i++) {
            x.put(0, i, 100 * i);
        }
        Edge.due(x, "61", x.copy(0, 0, 3, 0, 61), Check.INDEX, 3);
        Edge.due(x, "60", x.copy(0, 0, 3, 0, 60), 60, 0);
        for (int i = 0; i < 60; i++) {
            Edge.due("cell " + i, x.cell(3, i, 1), 100 * i);
        }
    }

    private static void copyBeyond() {
        Edge.of("Promise 26", "below 0 or beyond");
        DeafAuction x = new DeafAuction();
        Check.fill(x, 0, 1, 1, 2, 3);
        Check.fill(x, 1, 1, 4, 5);
        Edge.due(x, "one cell beyond the first", x.copy(0, 2, 1, 0, 2), Check.INDEX, 3);
        Edge.due(x, "one cell beyond the other", x.copy(0, 0, 1, 1, 2), Check.INDEX, 3);
        Edge.due(x, "i and n wrap around", x.copy(0, Check.MOST, 1, 0, Check.MOST), Check.INDEX, 3);
        Edge.due(x, "j and n wrap around", x.copy(0, 0, 1, Check.MOST, Check.MOST), Check.INDEX, 3);
        Edge.due(x, "1 and n wrap around", x.copy(0, 1, 1, 1, Check.MOST), Check.INDEX, 3);
        Edge.due(x, "the least i", x.copy(0, Check.LEAST, 1, 0, 1), Check.INDEX, 3);
        Edge.due(x, "the least j", x.copy(0, 0, 1, Check.LEAST, 1), Check.INDEX, 3);
        Edge.due(x, "the least n", x.copy(0, 0, 1, 0, Check.LEAST), Check.INDEX, 3);
        rowIs(x, 1, 4, 5);
        Edge.due(x, "up to both ends", x.copy(0, 1, 1, 0, 2), 2, 0);
        rowIs(x, 1, 2, 3);
    }

    private static void copyNullFirst() {
        Edge.of("Promise 26", "FAULTS NULL (the first, the other), CAST (unlike LANES)");
        DeafAuction x = new DeafAuction();
        x.sheet(0, 0, 1);
        x.sheet(1, 1, 1);
        Edge.due(x, "the first", x.copy(3, 0, 0, 0, 1), Check.NULL, 1);
        Edge.due(x, "the other", x.copy(0, 0, 3, 0, 1), Check.NULL, 1);
        Edge.due(x, "both", x.copy(2, -1, 3, -1, -1), Check.NULL, 1);
        Edge.due(x, "the same", x.copy(3, 0, 3, 0, 0), Check.NULL, 1);
        Edge.due(x, "bytes to shorts", x.copy(0, 0, 1, 0, 1), Check.CAST, 2);
        Edge.due(x, "shorts to bytes", x.copy(1, 0, 0, 0, 1), Check.CAST, 2);
        Edge.due(x, "unlike lanes, no cell", x.copy(1, 1, 0, 1, 0), Check.CAST, 2);
        Edge.due(x, "unlike lanes, n below 0", x.copy(1, 0, 0, 0, -1), Check.CAST, 2);
        x.sheet(1, 2, 1);
        Edge.due(x, "ints to bytes", x.copy(1, 0, 0, 0, 1), Check.CAST, 2);
        Edge.due(x, "bytes to ints", x.copy(0, 0, 1, 0, 1), Check.CAST, 2);
    }

    /** What tell or nod answers, and that the bodies, in this order, are what is left in TRACE. */
    private static void left(DeafAuction x, int b, int telling, int nodding, int... bodies) {
        int trace = x.trace();
        if (telling >= 0) {
            Edge.due("tell(" + b + ")", x.tell(b), telling);
        } else {
            Edge.due("nod(" + b + ")", x.nod(b), nodding);
        }
        for (int body : bodies) {
            trace = 31 * trace + body;
        }
        Edge.due("trace()", x.trace(), trace);
    }

    private static void tellBuyer() {
        Edge.of("Text 5", "as they begin: BUYER (1): PURSE");
        DeafAuction x = Check.in("a12;b01;b99");
        left(x, 0, 1, -1, 1);
        left(x, 1, 99, -1, 1);
        Edge.of("Promise 27", "TELLING of a BUYER");
        left(x, 0, 1, -1, 1);
        x.worth(0, 0, 1);
        x.sale(0, 0);
        left(x, 0, 1, -1, 1);
    }

    private static void tellHatted() {
        Edge.of("Text 5", "HATTED (2): what BUYER's gives, and 100");
        DeafAuction x = Check.in("a12;h01;h99");
        left(x, 0, 101, -1, 2, 1);
        left(x, 1, 199, -1, 2, 1);
    }

    private static void tellNervous() {
        Edge.of("Text 5", "NERVOUS (3): what HATTED's gives, and what BUYER's gives (HATTED's left out)");
        DeafAuction x = Check.in("a12;n01;n99");
        left(x, 0, 102, -1, 3, 2, 1, 1);
        left(x, 1, 298, -1, 3, 2, 1, 1);
    }

    private static void nod() {
        Edge.of("Text 5", "NODDED at by a lent body (4): its number");
        DeafAuction x = Check.in("a23;b10;h10;n10;n10;h10;b10");
        left(x, 0, -1, 0, 4);
        left(x, 1, -1, 1, 4);
        left(x, 4, -1, 4, 4);
        left(x, 5, -1, 5, 4);
        Edge.of("Text 5", "NERVOUS ones have their own (5): 80");
        left(x, 2, -1, 80, 5);
        left(x, 3, -1, 80, 5);
        Edge.of("Promise 28", "How one NODS at it");
        left(x, 0, -1, 0, 4);
        left(x, 3, -1, 80, 5);
    }

    private static void traceWraps() {
        Edge.of("Text 5", "TRACE (an int that wraps, 0 at first, becomes 31 times it and the number)");
        DeafAuction x = Check.in("a12;b10;n10");
        Edge.due("0 at first", x.trace(), 0);
        // The sum of 4 times the powers of 31 up to the sixth fits into an int no more.
        int[] wants = {4, 128, 3972, 123136, 3817220, 118333824, (int) (3668348548L - (1L << 32))};
        for (int t = 0; t < wants.length; t++) {
            x.nod(0);
            Edge.due("after " + (t + 1) + " nods", x.trace(), wants[t]);
        }
        for (int t = 0; t < 100; t++) {
            left(x, 1, 120, -1, 3, 2, 1, 1);
        }
    }

    private static void as() {
        Edge.of("Promise 29", "A BUYER, taken as one of a kind: 1");
        DeafAuction x = Check.in("a13;n10;h10;b10");
        Edge.due(x, "n as its own", x.as(0, 2), 1, 0);
        Edge.due(x, "h as its own", x.as(1, 1), 1, 0);
        Edge.due(x, "b as its own", x.as(2, 0), 1, 0);
        Edge.due(x, "n as h", x.as(0, 1), 1, 0);
        Edge.due(x, "n as b", x.as(0, 0), 1, 0);
        Edge.due(x, "h as b", x.as(1, 0), 1, 0);
        Edge.of("Promise 29", "CAST: it is none");
        Edge.due(x, "h as n", x.as(1, 2), Check.CAST, 2);
        Edge.due(x, "b as n", x.as(2, 2), Check.CAST, 2);
        Edge.due(x, "b as h", x.as(2, 1), Check.CAST, 2);
        Edge.due("it is of its kind still", x.ofBuyer(2, 0), 0);
    }

    private static void trace() {
        Edge.of("Promise 30", "TRACE");
        DeafAuction x = new DeafAuction();
        Edge.due("0 at first", x.trace(), 0);
        Check.due(2, "hall", Check.hall(x, "a12;b10;n10"), 2);
        Edge.due("0 in a hall", x.trace(), 0);
        x.tell(0);
        Edge.due("after BUYER's body", x.trace(), 1);
        x.nod(1);
        Edge.due("after the own one of NERVOUS", x.trace(), 36);
        Edge.due("again", x.trace(), 36);
        x.tell(2);
        x.nod(-1);
        Edge.due("after refused calls", x.trace(), 36);
    }

    private static void fault() {
        Edge.of("Promise 31", "The FAULT of the latest call that names one");
        DeafAuction x = Check.in("a12;b10;n10");
        Edge.due(x, "NULL", x.put(1, 0, 0), Check.NULL, 1);
        Edge.due(x, "CAST", x.as(0, 1), Check.CAST, 2);
        Edge.due(x, "INDEX", x.put(0, 11, 0), Check.INDEX, 3);
        Edge.due(x, "SIZE", x.sheet(1, 0, -1), Check.SIZE, 4);
        Edge.due("again", x.fault(), 4);
        Edge.due("of a call that names none", x.lose(1), 0);
        Edge.due("it stays", x.fault(), 4);
        Edge.due("of one that is refused", x.lose(4), Check.UNKNOWN);
        Edge.due("it stays", x.fault(), 4);
    }

    /** A call that names faults, made so that it comes to none, or is refused. */
    private record Asked(String told, ToLongFunction<DeafAuction> call, long want) {
    }

    private static void faultOfRefused() {
        Edge.of("Promise 31", "0: it came to none, or was refused (0 ahead of any)");
        Edge.due("ahead of any", new DeafAuction().fault(), 0);
        List<Asked> all = List.of(
                new Asked("hall", x -> x.hall(0, 2, 0, 11), 2),
                new Asked("hall of no text", x -> x.hall(0, 2, 0, 10), -110),
                new Asked("hall refused", x -> x.hall(4, 2, 0, 11), Check.UNKNOWN),
                new Asked("row", x -> x.row(-1, 1, 2, 0, 2), 0),
                new Asked("row of no lot", x -> x.row(-1, 0, 2, 0, 1), Check.UNKNOWN),
                new Asked("row refused", x -> x.row(-1, 1, 3, 0, 2), Check.OUTSIDE),
                new Asked("sheet", x -> x.sheet(3, 2, 0), 1),
                new Asked("sheet refused", x -> x.sheet(3, 2, 61), Check.OUTSIDE),
                new Asked("put", x -> x.put(1, 0, 0), 1),
                new Asked("put refused", x -> x.put(4, 0, 0), Check.UNKNOWN),
                new Asked("cell", x -> x.cell(1, 1, 2), 1),
                new Asked("cell refused", x -> x.cell(1, 1, 3), Check.LOST),
                new Asked("copy", x -> x.copy(1, 0, 1, 0, 2), 2),
                new Asked("copy refused", x -> x.copy(1, 0, 4, 0, 2), Check.UNKNOWN),
                new Asked("as", x -> x.as(0, 0), 1),
                new Asked("as refused", x -> x.as(0, 3), Check.OUTSIDE));
        DeafAuction x = Check.in("a12;b10;n10");
        Check.fill(x, 1, 2, 0, 1);
        for (Asked asked : all) {
            Edge.due(x, "a fault first", x.sheet(2, 0, -1), Check.SIZE, 4);
            Edge.due(x, asked.told, asked.call.applyAsLong(x), asked.want, 0);
        }
    }

    private static void many() {
        Edge.of("Promise 32", "How many: 0 BUYERS, 1 SEATS, 2 the LAW, 3 READINGS (0 all without a HALL)");
        DeafAuction x = new DeafAuction();
        for (int what = 0; what < 4; what++) {
            Edge.due("no hall: " + what, x.many(what), 0);
        }
        Check.due(2, "a text that is not taken", Check.hall(x, "a46;b10"), -107);
        for (int what = 0; what < 4; what++) {
            Edge.due("still no hall: " + what, x.many(what), 0);
        }
        Check.due(2, "the greatest hall", Check.hall(x, "a46" + ";n99".repeat(6)), 6);
        x.law(2);
        for (int k = 0; k < 6; k++) {
            x.reading(3, 9);
        }
        int[] wants = {6, 24, 2, 6};
        for (int what = 0; what < 4; what++) {
            Edge.due("the most of " + what, x.many(what), wants[what]);
        }
        Check.due(2, "the least hall", Check.hall(x, "a12;b01;b01"), 2);
        int[] least = {2, 2, 0, 0};
        for (int what = 0; what < 4; what++) {
            Edge.due("the least of " + what, x.many(what), least[what]);
        }
    }
}
