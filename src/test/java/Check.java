/** What the tests share: counting wrong answers, and short ways to set up an object. */
final class Check {
    static final int UNKNOWN = -1, OUTSIDE = -2, STATE = -3, FULL = -4, NONE = -9;
    static final int NULL = -11, CAST = -12, INDEX = -13, SIZE = -14;
    static final long LOST = Long.MIN_VALUE;
    static final int LEAST = Integer.MIN_VALUE, MOST = Integer.MAX_VALUE;

    private static int asked = 0;
    private static int wrong = 0;

    private Check() {
    }

    static void due(int promise, String call, long got, long want) {
        due("promise " + promise, call, got, want);
    }

    static void due(String where, String call, long got, long want) {
        asked++;
        if (got != want) {
            wrong++;
            System.out.println(where + ": " + call + " answered " + got + ", due is " + want);
        }
    }

    static void finish() {
        System.out.println(asked + " answers, " + wrong + " not as due");
        if (wrong != 0 || asked == 0) {
            System.exit(1);
        }
    }

    /** Puts numbers on a sheet, which gets a new row of just as many. */
    static void fill(DeafAuction x, int sheet, int lane, int... numbers) {
        due(22, "sheet", x.sheet(sheet, lane, numbers.length), 1);
        for (int i = 0; i < numbers.length; i++) {
            due(24, "put", x.put(sheet, i, numbers[i]), 1);
        }
    }

    static int[] codes(String text) {
        return text.chars().toArray();
    }

    /** What hall answers for a text, put on sheet 0 as ints. */
    static int hall(DeafAuction x, String text) {
        fill(x, 0, 2, codes(text));
        return x.hall(0, 2, 0, text.length());
    }

    /** A new object with a hall. */
    static DeafAuction in(String text) {
        DeafAuction x = new DeafAuction();
        int buyers = (text.length() - 3) / 4;
        due(2, "hall of " + text, hall(x, text), buyers);
        return x;
    }

    /** What a lot is worth to the buyers 0, 1, .. */
    static void worths(DeafAuction x, int lot, int... values) {
        for (int b = 0; b < values.length; b++) {
            x.worth(b, lot, values[b]);
            due(4, "worth read back", x.worth(b, lot, values[b]), values[b]);
        }
    }
}
