/** Promises 18 to 21: readings, what a lot can have been worth, where one can have sat. */
public final class ClerkTest {
    private ClerkTest() {
    }

    public static void main(String[] args) {
        reading();
        back();
        values();
        valuesByOtherLots();
        valuesBeyondPurse();
        places();
        Check.finish();
    }

    private static void reading() {
        DeafAuction x = new DeafAuction();
        Check.due(18, "reading(4, 100), no hall", x.reading(4, 100), Check.UNKNOWN);
        Check.due(18, "reading(0, 100), no hall", x.reading(0, 100), Check.OUTSIDE);
        Check.due(18, "reading(0, 0), no hall", x.reading(0, 0), Check.STATE);
        x = Check.in("a12;b30;b50");
        for (int k = 0; k < 6; k++) {
            Check.due(32, "many(3)", x.many(3), k);
            Check.due(18, "reading " + k, x.reading(k % 4, k == 0 ? 0 : 99), k);
        }
        Check.due(18, "a seventh", x.reading(0, 0), Check.FULL);
        Check.due(18, "reading(-1, 0)", x.reading(-1, 0), Check.UNKNOWN);
        Check.due(18, "reading(4, 100)", x.reading(4, 100), Check.UNKNOWN);
        Check.due(18, "reading(0, 100)", x.reading(0, 100), Check.OUTSIDE);
        Check.due(18, "reading(0, -1)", x.reading(0, -1), Check.OUTSIDE);
        Check.due(18, "many(3)", x.many(3), 6);
    }

    private static void back() {
        DeafAuction x = new DeafAuction();
        Check.due(19, "back(0), no hall", x.back(0), 0);
        Check.due(19, "back(1), no hall", x.back(1), Check.OUTSIDE);
        x = Check.in("a12;b30;b50");
        for (int k = 0; k < 5; k++) {
            x.reading(0, 0);
        }
        Check.due(19, "back(6)", x.back(6), Check.OUTSIDE);
        Check.due(19, "back(-1)", x.back(-1), Check.OUTSIDE);
        Check.due(19, "back(most)", x.back(Check.MOST), Check.OUTSIDE);
        Check.due(19, "back(0)", x.back(0), 5);
        Check.due(19, "back(2)", x.back(2), 3);
        Check.due(18, "the next number", x.reading(0, 0), 3);
        Check.due(19, "back(4)", x.back(4), 0);
        Check.due(32, "many(3)", x.many(3), 0);
    }

    private static void valuesAre(DeafAuction x, int b, int least, int most) {
        int count = most - least + 1;
        Check.due(20, "how many values of " + b, x.values(b, 0, -1), count);
        for (int k = 0; k < count; k++) {
            Check.due(20, "value " + k + " of " + b, x.values(b, 0, k), least + k);
        }
        Check.due(20, "no value", x.values(b, 0, count), Check.NONE);
        Check.due(20, "no value", x.values(b, 0, Check.MOST), Check.NONE);
    }

    private static void values() {
        DeafAuction x = Check.in("a12;b30;b50");
        x.law(2);
        Check.worths(x, 0, 10, 10);
        valuesAre(x, 0, 0, 99);
        x.reading(0, 10);
        valuesAre(x, 1, 10, 99);
        valuesAre(x, 0, 9, 10);
        x.reading(0, 5);
        valuesAre(x, 1, 0, -1);
        x.back(1);
        valuesAre(x, 1, 10, 99);
        x.back(1);
        x.reading(0, 5);
        x.reading(0, 5);
        valuesAre(x, 1, 4, 5);
        x.back(2);
        x.reading(0, 1);
        valuesAre(x, 1, 0, 1);
        Check.due(20, "worth as before", x.worth(1, 0, 10), 10);
        Check.due(20, "values(2, 0, -1)", x.values(2, 0, -1), Check.UNKNOWN);
        Check.due(20, "values(-1, 0, -1)", x.values(-1, 0, -1), Check.UNKNOWN);
        Check.due(20, "values(0, 4, -1)", x.values(0, 4, -1), Check.UNKNOWN);
        Check.due(20, "values(0, -1, -1)", x.values(0, -1, -1), Check.UNKNOWN);
        Check.due(20, "values(0, 0, -2)", x.values(0, 0, -2), Check.UNKNOWN);
        Check.due(20, "values(0, 0, least)", x.values(0, 0, Check.LEAST), Check.UNKNOWN);
        Check.due(20, "no hall", new DeafAuction().values(0, 0, -1), Check.UNKNOWN);
    }

    private static void valuesByOtherLots() {
        DeafAuction x = Check.in("a12;b30;b50");
        x.law(2);
        Check.worths(x, 0, 10, 10);
        Check.worths(x, 1, 3, 0);
        x.reading(1, 1);
        valuesAre(x, 0, 0, 99);
        x.reading(0, 10);
        valuesAre(x, 0, 9, 10);
        x.worth(1, 1, 3);
        valuesAre(x, 0, 0, -1);
        x.worth(1, 1, 1);
        valuesAre(x, 0, 9, 10);
    }

    private static void valuesBeyondPurse() {
        DeafAuction x = Check.in("a12;b30;n50");
        x.law(2);
        Check.worths(x, 0, 0, 60);
        x.reading(0, 30);
        valuesAre(x, 0, 29, 99);
        x.back(1);
        Check.worths(x, 0, 6, 0);
        x.reading(0, 5);
        valuesAre(x, 1, 6, 7);
    }

    private static void places() {
        DeafAuction x = Check.in("a14;b20;b20");
        Check.worths(x, 0, 0, 6);
        Check.due(21, "no readings", x.places(1), 2 + 4 + 8);
        x.reading(0, 2);
        Check.due(21, "on the left", x.places(1), 2);
        Check.due(21, "of 0 all that are free", x.places(0), 1 + 4 + 8);
        x.reading(1, 0);
        Check.due(21, "another lot that is so", x.places(1), 2);
        x.reading(2, 1);
        Check.due(21, "one that is not", x.places(1), 0);
        x.back(3);
        x.reading(0, 1);
        Check.due(21, "on the right", x.places(1), 4 + 8);
        Check.due(21, "as all sit now", x.places(0), 0);
        x.sit(1, 3);
        Check.due(21, "as all sit now", x.places(0), 1 + 2 + 4);
        Check.due(21, "1 sits as before", x.ofBuyer(1, 1), 3);
        Check.due(21, "places(2)", x.places(2), Check.UNKNOWN);
        Check.due(21, "places(-1)", x.places(-1), Check.UNKNOWN);
        Check.due(21, "no hall", new DeafAuction().places(0), Check.UNKNOWN);
        DeafAuction large = Check.in("a46;b20;b20");
        Check.due(21, "24 seats", large.places(0), (1 << 24) - 1 - 2);
    }
}
