import java.util.Random;

/** Long runs of calls, the same ones on the class and on the model: every answer must be alike. */
public final class ModelTest {
    private static final int RUNS = 4000, CALLS = 500;
    private static final String LETTERS = "bhn";

    private final Random random;
    private final DeafAuction x = new DeafAuction();
    private final Model model = new Model();

    private ModelTest(long seed) {
        random = new Random(seed);
    }

    public static void main(String[] args) {
        for (int seed = 0; seed < RUNS; seed++) {
            ModelTest test = new ModelTest(seed);
            for (int call = 0; call < CALLS; call++) {
                test.call("seed " + seed + ", call " + call);
            }
        }
        Check.finish();
    }

    /** Mostly a number from least to most, at times one beside them, or far off. */
    private int near(int least, int most) {
        int odd = random.nextInt(60);
        if (odd == 0) {
            return random.nextInt();
        }
        if (odd == 1) {
            return random.nextBoolean() ? Integer.MIN_VALUE : Integer.MAX_VALUE;
        }
        if (odd < 5) {
            return random.nextBoolean() ? least - 1 : most + 1;
        }
        return least + random.nextInt(most - least + 1);
    }

    private String text() {
        int rows = 1 + random.nextInt(4);
        int wide = 2 + random.nextInt(5);
        int buyers = 2 + random.nextInt(Math.min(6, rows * wide) - 1);
        StringBuilder text = new StringBuilder("a").append(rows).append(wide);
        for (int b = 0; b < buyers; b++) {
            int purse = 1 + random.nextInt(random.nextInt(4) == 0 ? 5 : 99);
            text.append(';').append(LETTERS.charAt(random.nextInt(3)));
            text.append(purse / 10).append(purse % 10);
        }
        return text.toString();
    }

    /** A text, at times with one code changed, cut off, or with a buyer more. */
    private String nearText() {
        StringBuilder text = new StringBuilder(text());
        int odd = random.nextInt(8);
        if (odd == 0) {
            text.setCharAt(random.nextInt(text.length()), "abhn;0123456789 z".charAt(random.nextInt(17)));
        } else if (odd == 1) {
            text.setLength(random.nextInt(text.length()));
        } else if (odd == 2) {
            text.append(";b09;h30;n77;b00".substring(0, 1 + random.nextInt(16)));
        }
        return text.toString();
    }

    private void same(String where, String call, long got, long want) {
        Check.due(0, where + ": " + call, got, want);
    }

    private void layText(String where, String text) {
        int lane = random.nextInt(3);
        int sheet = random.nextInt(4);
        int ahead = random.nextInt(3);
        int length = ahead + text.length() + random.nextInt(3);
        same(where, "sheet", x.sheet(sheet, lane, length), model.sheet(sheet, lane, length));
        for (int i = 0; i < text.length(); i++) {
            int code = text.charAt(i);
            same(where, "put", x.put(sheet, ahead + i, code), model.put(sheet, ahead + i, code));
        }
        same(where, "hall of " + text, x.hall(sheet, lane, ahead, text.length()),
                model.hall(sheet, lane, ahead, text.length()));
        for (int b = 0; b < 6; b++) {
            for (int lot = 0; lot < 4; lot++) {
                int v = near(0, random.nextInt(3) == 0 ? 9 : 99);
                same(where, "worth", x.worth(b, lot, v), model.worth(b, lot, v));
            }
        }
    }

    private void call(String where) {
        int group = random.nextInt(100);
        if (group < 2) {
            layText(where, nearText());
        } else if (group < 25) {
            hallCall(where);
        } else if (group < 50) {
            saleCall(where);
        } else if (group < 60) {
            dearCall(where);
        } else if (group < 70) {
            clerkCall(where);
        } else if (group < 90) {
            sheetCall(where);
        } else {
            partCall(where);
        }
    }

    private void hallCall(String where) {
        int b = near(0, 5);
        int lot = near(0, 3);
        switch (random.nextInt(6)) {
            case 0: {
                int what = near(0, 3);
                same(where, "ofBuyer", x.ofBuyer(b, what), model.ofBuyer(b, what));
                break;
            }
            case 1: {
                int v = near(0, 99);
                same(where, "worth", x.worth(b, lot, v), model.worth(b, lot, v));
                break;
            }
            case 2:
                same(where, "limit", x.limit(b, lot), model.limit(b, lot));
                break;
            case 3: {
                int v = near(0, 2);
                same(where, "law", x.law(v), model.law(v));
                break;
            }
            default: {
                int seat = near(0, 23);
                same(where, "sit", x.sit(b, seat), model.sit(b, seat));
            }
        }
    }

    private void saleCall(String where) {
        int b = near(0, 5);
        int lot = near(0, 3);
        switch (random.nextInt(5)) {
            case 0: {
                int what = near(0, 2);
                same(where, "sale", x.sale(lot, what), model.sale(lot, what));
                break;
            }
            case 1: {
                int k = near(0, 30);
                same(where, "bid", x.bid(lot, k), model.bid(lot, k));
                break;
            }
            case 2:
                same(where, "ends", x.ends(b, lot), model.ends(b, lot));
                break;
            case 3:
                same(where, "gain", x.gain(b, lot), model.gain(b, lot));
                break;
            default:
                rowCall(where);
        }
    }

    private void rowCall(String where) {
        int lane = near(0, 2);
        int sheet = near(0, 3);
        int[] lots = {0, 1, 2, 3, random.nextInt(6) - 1};
        for (int q = 0; q < 4; q++) {
            int with = random.nextInt(4);
            int lot = lots[q];
            lots[q] = lots[with];
            lots[with] = lot;
        }
        same(where, "sheet", x.sheet(sheet, lane, 5), model.sheet(sheet, lane, 5));
        for (int q = 0; q < 5; q++) {
            same(where, "put", x.put(sheet, q, lots[q]), model.put(sheet, q, lots[q]));
        }
        int b = near(-1, 5);
        int i = near(0, 2);
        int n = near(0, 5);
        int as = random.nextInt(10) == 0 ? near(0, 2) : lane;
        same(where, "row", x.row(b, sheet, as, i, n), model.row(b, sheet, as, i, n));
    }

    private void dearCall(String where) {
        int b = near(0, 5);
        int lot = near(0, 3);
        switch (random.nextInt(5)) {
            case 0: {
                int what = near(0, 1);
                same(where, "best", x.best(b, lot, what), model.best(b, lot, what));
                break;
            }
            case 1: {
                int q = near(-1, 3);
                same(where, "order", x.order(q), model.order(q));
                break;
            }
            case 2: {
                int set = near(0, random.nextBoolean() ? 63 : 15);
                same(where, "ring", x.ring(set, lot), model.ring(set, lot));
                break;
            }
            case 3: {
                int which = near(0, 1);
                same(where, "mean", x.mean(lot, which), model.mean(lot, which));
                break;
            }
            default:
                same(where, "hangs", x.hangs(lot), model.hangs(lot));
        }
    }

    private void clerkCall(String where) {
        int b = near(0, 5);
        int lot = near(0, 3);
        switch (random.nextInt(4)) {
            case 0: {
                // A price that is so, or was so lately, keeps the sets of values and places rich.
                int now = model.sale(lot, 0);
                int price = random.nextInt(4) == 0 ? near(0, 99) : now;
                same(where, "reading", x.reading(lot, price), model.reading(lot, price));
                break;
            }
            case 1: {
                int k = near(0, 6);
                same(where, "back", x.back(k), model.back(k));
                break;
            }
            case 2: {
                int k = near(-1, random.nextBoolean() ? 5 : 99);
                same(where, "values", x.values(b, lot, k), model.values(b, lot, k));
                break;
            }
            default:
                same(where, "places", x.places(b), model.places(b));
        }
    }

    private void sheetCall(String where) {
        int k = near(0, 3);
        int lane = near(0, 2);
        int i = near(0, 30);
        switch (random.nextInt(7)) {
            case 0: {
                int n = near(0, 60);
                same(where, "sheet", x.sheet(k, lane, n), model.sheet(k, lane, n));
                break;
            }
            case 1:
                same(where, "lose", x.lose(k), model.lose(k));
                break;
            case 2: {
                int v = random.nextInt() >> random.nextInt(32);
                same(where, "put", x.put(k, i, v), model.put(k, i, v));
                break;
            }
            case 3:
                same(where, "cell", x.cell(k, i, lane), model.cell(k, i, lane));
                break;
            case 4: {
                int n = near(-1, 30);
                same(where, "hall", x.hall(k, lane, i, n), model.hall(k, lane, i, n));
                break;
            }
            case 5: {
                int n = near(-1, 5);
                same(where, "row", x.row(-1, k, lane, i, n), model.row(-1, k, lane, i, n));
                break;
            }
            default: {
                int other = near(0, 3);
                int j = near(0, 30);
                int n = near(-1, 30);
                same(where, "copy", x.copy(k, i, other, j, n), model.copy(k, i, other, j, n));
            }
        }
    }

    private void partCall(String where) {
        int b = near(0, 5);
        switch (random.nextInt(6)) {
            case 0:
                same(where, "tell", x.tell(b), model.tell(b));
                break;
            case 1:
                same(where, "nod", x.nod(b), model.nod(b));
                break;
            case 2: {
                int kind = near(0, 2);
                same(where, "as", x.as(b, kind), model.as(b, kind));
                break;
            }
            case 3:
                same(where, "trace", x.trace(), model.trace());
                break;
            case 4:
                same(where, "fault", x.fault(), model.fault());
                break;
            default: {
                int what = near(0, 3);
                same(where, "many", x.many(what), model.many(what));
            }
        }
    }
}
