import java.util.ArrayList;
import java.util.List;
import java.util.function.Consumer;
import java.util.function.ToLongFunction;

/**
 * Two objects made by the same calls, of which one is refused something: the answer must be the
 * one that is due, and then the two must be alike in all that can be asked of them.
 */
final class Twins {
    /** Both ways to make twins end with a fault, so that it can be seen whether it stays. */
    private static final int LAST_FAULT = 4;

    private final Consumer<DeafAuction> maker;

    private Twins(Consumer<DeafAuction> maker) {
        this.maker = maker;
    }

    /** Without a hall. Sheets: nothing, three shorts, no ints, nothing. */
    static Twins bare() {
        return new Twins(x -> {
            Check.fill(x, 1, 1, 0, 1, 4);
            Check.fill(x, 2, 2);
            x.sheet(3, 0, -1);
        });
    }

    /**
     * A hall of six seats, three buyers, all readings. Sheets: the text as 15 ints, seven shorts
     * (lots, a lot twice, no lots), no bytes, nothing.
     */
    static Twins full() {
        return new Twins(x -> {
            Check.hall(x, "a23;b30;h40;n50");
            Check.fill(x, 1, 1, 0, 1, 2, 1, 4, -1, 3);
            Check.fill(x, 2, 0);
            Check.worths(x, 0, 10, 20, 30);
            Check.worths(x, 3, 9, 8, 7);
            x.law(1);
            x.sit(2, 4);
            x.tell(2);
            for (int k = 0; k < 6; k++) {
                x.reading(k % 4, x.sale(k % 4, 0));
            }
            x.sheet(3, 0, -1);
        });
    }

    /** Of a call that names no faults: what fault() tells stays. */
    void refused(String call, ToLongFunction<DeafAuction> asked, long want) {
        ask(call, asked, want, LAST_FAULT);
    }

    /** Of a call that names faults: fault() tells 0 then. */
    void refusedAheadOfFaults(String call, ToLongFunction<DeafAuction> asked, long want) {
        ask(call, asked, want, 0);
    }

    void faulty(String call, ToLongFunction<DeafAuction> asked, int fault) {
        ask(call, asked, -10 - fault, fault);
    }

    void faultyAndLost(String call, ToLongFunction<DeafAuction> asked, int fault) {
        ask(call, asked, Check.LOST, fault);
    }

    private void ask(String call, ToLongFunction<DeafAuction> asked, long want, int fault) {
        DeafAuction x = new DeafAuction();
        DeafAuction twin = new DeafAuction();
        maker.accept(x);
        maker.accept(twin);
        Edge.due("fault() ahead of " + call, x.fault(), LAST_FAULT);
        Edge.due(x, call, asked.applyAsLong(x), want, fault);
        List<Long> got = look(x);
        List<Long> wanted = look(twin);
        Edge.due(call + " changes nothing", got.equals(wanted) ? 1 : 0, 1);
    }

    private static List<Long> look(DeafAuction x) {
        List<Long> seen = new ArrayList<>();
        seen.add((long) x.trace());
        for (int what = 0; what < 4; what++) {
            seen.add((long) x.many(what));
            for (int b = 0; b < 6; b++) {
                seen.add((long) x.ofBuyer(b, what));
            }
        }
        for (int k = 0; k < 4; k++) {
            lookAtSheet(x, k, seen);
        }
        for (int lot = 0; lot < 4; lot++) {
            for (int what = 0; what < 3; what++) {
                seen.add((long) x.sale(lot, what));
            }
        }
        lookAtReadings(x, seen);
        for (int b = 0; b < 3; b++) {
            for (int lot = 0; lot < 4; lot++) {
                seen.add((long) x.worth(b, lot, 0));
            }
        }
        return seen;
    }

    private static void lookAtSheet(DeafAuction x, int k, List<Long> seen) {
        for (int lane = 0; lane < 3; lane++) {
            boolean there = true;
            for (int i = 0; i < 60 && there; i++) {
                seen.add(x.cell(k, i, lane));
                there = x.fault() == 0;
                seen.add((long) x.fault());
            }
        }
    }

    /** What the readings are is seen by what they let a buyer be, as one after the other goes. */
    private static void lookAtReadings(DeafAuction x, List<Long> seen) {
        int readings = x.many(3);
        for (int r = 0; r < readings; r++) {
            for (int b = 0; b < 3; b++) {
                seen.add((long) x.places(b));
                seen.add((long) x.values(b, r % 4, -1));
                seen.add((long) x.values(b, r % 4, 0));
            }
            seen.add((long) x.back(1));
        }
    }
}
