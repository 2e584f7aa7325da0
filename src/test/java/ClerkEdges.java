/** The edges of text 4 and of promises 18 to 21, each by a test of its own, on new objects. */
final class ClerkEdges {
    private ClerkEdges() {
    }

    static void run() {
        sixAtMost();
        numbers();
        asAllSitAtFirst();
        valuesFrom0To99();
        valuesAtEnds();
        valuesBeyondPurse();
        valuesByAllReadings();
        valuesAnswers();
        placesFree();
        placesByReadings();
        placesOfMostSeats();
        reading();
        back();
        backOfNone();
    }

    private static void sixAtMost() {
        Edge.of("Text 4", "READINGS, 6 at most");
        DeafAuction x = Check.in("a12;b20;b20");
        for (int k = 0; k < 6; k++) {
            Edge.due("the same one again", x.reading(2, 50), k);
        }
        Edge.due("a seventh", x.reading(2, 50), Check.FULL);
        Edge.due("a seventh of another lot", x.reading(0, 0), Check.FULL);
        Edge.due("six", x.many(3), 6);
    }

    private static void numbers() {
        Edge.of("Text 4", "numbered by how many there are");
        DeafAuction x = Check.in("a12;b20;b20");
        Edge.due("the first", x.reading(0, 0), 0);
        Edge.due("the second", x.reading(3, 99), 1);
        Edge.due("one taken back", x.back(1), 1);
        Edge.due("the second again", x.reading(1, 1), 1);
        Edge.due("both taken back", x.back(2), 0);
        Edge.due("the first again", x.reading(1, 1), 0);
    }

    private static void asAllSitAtFirst() {
        Edge.of("Text 4", "a SALE of a LOT (as all sit at first) made a PRICE");
        DeafAuction x = Check.in("a14;b03;b03");
        x.worth(1, 0, 9);
        x.worth(1, 1, 9);
        x.reading(0, 2);
        x.reading(1, 2);
        // In a row of lots the second one would bring 1: 1 has moved to the right, and paid.
        Edge.due("each of its own", x.places(1), 1 << 1);
        Edge.due("as 1 sits now", x.sit(1, 3), 1);
        Edge.due("where it sits now they are not so", x.places(1), 1 << 1);
        Edge.due("nor by what it is worth", x.values(1, 0, -1), 0);
        x.back(2);
        x.reading(0, 1);
        x.reading(1, 1);
        Edge.due("on the right they bring 1", x.places(1), 1 << 2 | 1 << 3);
    }

    private static void valuesAre(DeafAuction x, int b, String which, int least, int most) {
        int count = most - least + 1;
        Edge.due(which + ": how many", x.values(b, 0, -1), count);
        Edge.due(which + ": the first", x.values(b, 0, 0), count > 0 ? least : Check.NONE);
        Edge.due(which + ": one too many", x.values(b, 0, count), Check.NONE);
        if (count > 0) {
            Edge.due(which + ": the last", x.values(b, 0, count - 1), most);
        }
    }

    private static void valuesFrom0To99() {
        Edge.of("Text 4", "VALUES of a LOT to a BUYER: numbers 0 .. 99 by which, as its WORTH, all READINGS are so");
        DeafAuction x = Check.in("a12;b20;n20");
        x.law(2);
        valuesAre(x, 0, "no readings", 0, 99);
        for (int k = 0; k < 100; k++) {
            Edge.due("no readings: " + k, x.values(1, 0, k), k);
        }
        x.reading(0, 50);
        valuesAre(x, 0, "never so", 0, -1);
    }

    private static void valuesAtEnds() {
        Edge.of("Text 4", "numbers 0 .. 99");
        DeafAuction x = Check.in("a13;b99;b99;n99");
        x.law(2);
        x.reading(0, 0);
        valuesAre(x, 0, "0 alone", 0, 0);
        valuesAre(x, 2, "of a nervous one", 0, 2);
        x.law(0);
        valuesAre(x, 0, "from the left", 0, 1);
        x.law(2);
        x.back(1);
        x.reading(0, 99);
        x.worth(1, 0, 99);
        valuesAre(x, 0, "99 alone", 99, 99);
        valuesAre(x, 2, "nobody goes so far", 0, -1);
    }

    private static void valuesBeyondPurse() {
        Edge.of("Text 4", "as its WORTH");
        DeafAuction x = Check.in("a12;b10;b99");
        x.law(2);
        x.worth(1, 0, 99);
        x.reading(0, 10);
        valuesAre(x, 0, "all beyond the purse alike", 9, 99);
        x.back(1);
        x.reading(0, 12);
        valuesAre(x, 0, "beyond the purse there is no more", 0, -1);
        Edge.due("the worth is as it was", x.worth(0, 0, 0), 0);
    }

    private static void valuesByAllReadings() {
        Edge.of("Text 4", "all READINGS are so");
        DeafAuction x = Check.in("a12;b30;b50");
        x.law(2);
        Check.worths(x, 0, 10, 10);
        Check.worths(x, 1, 3, 3);
        x.reading(0, 10);
        valuesAre(x, 0, "one", 9, 10);
        x.reading(1, 3);
        valuesAre(x, 0, "another lot that is so", 9, 10);
        x.reading(0, 10);
        valuesAre(x, 0, "the same again", 9, 10);
        x.reading(0, 9);
        valuesAre(x, 0, "two prices of a lot", 0, -1);
        x.back(1);
        x.reading(1, 2);
        valuesAre(x, 0, "another lot that is not so", 0, -1);
        x.back(1);
        valuesAre(x, 0, "taken back", 9, 10);
    }

    private static void valuesAnswers() {
        Edge.of("Text 4", "how many; the k-th");
        DeafAuction x = Check.in("a12;b30;b50");
        x.law(2);
        x.worth(1, 3, 10);
        x.reading(3, 4);
        Edge.due("how many", x.values(0, 3, -1), 2);
        Edge.of("Promise 20", "VALUES: how many (k -1), the k-th, rising");
        Edge.due("the first", x.values(0, 3, 0), 3);
        Edge.due("the next", x.values(0, 3, 1), 4);
        Edge.of("Promise 20", "NONE: there are fewer");
        Edge.due("one too many", x.values(0, 3, 2), Check.NONE);
        Edge.due("99", x.values(0, 3, 99), Check.NONE);
        Edge.due("the most", x.values(0, 3, Check.MOST), Check.NONE);
        Edge.due("of a lot that does not come in, while another is not so", x.values(0, 0, 0), Check.NONE);
        x.back(1);
        Edge.due("without readings, 99", x.values(0, 3, 99), 99);
        Edge.due("without readings, 100", x.values(0, 3, 100), Check.NONE);
    }

    private static void placesFree() {
        Edge.of("Text 4", "PLACES of a BUYER: SEATS in which nobody sits (its own, too)");
        DeafAuction x = Check.in("a13;b20;b20;b20");
        for (int b = 0; b < 3; b++) {
            Edge.due("a full hall, " + b, x.places(b), 1 << b);
        }
        DeafAuction y = Check.in("a22;b20;b20");
        Edge.due("two free, 0", y.places(0), 1 + 4 + 8);
        Edge.due("two free, 1", y.places(1), 2 + 4 + 8);
        y.sit(0, 3);
        Edge.due("0 in the last", y.places(0), 1 + 4 + 8);
        Edge.due("0 in the last, 1", y.places(1), 1 + 2 + 4);
    }

    private static void placesByReadings() {
        Edge.of("Text 4", "by which they are so, as a set");
        DeafAuction x = Check.in("a14;b20;b20");
        Check.worths(x, 0, 0, 6);
        x.reading(0, 2);
        Edge.due("on the left", x.places(1), 1 << 1);
        x.reading(0, 1);
        Edge.due("two prices of a lot", x.places(1), 0);
        x.back(2);
        x.reading(0, 1);
        Edge.due("on the right, not its own", x.places(1), 1 << 2 | 1 << 3);
        Edge.due("of the other none, as 1 sits on the left", x.places(0), 0);
        x.reading(3, 0);
        Edge.due("another lot that is so", x.places(1), 1 << 2 | 1 << 3);
        x.reading(3, 1);
        Edge.due("another lot that is not so", x.places(1), 0);
        Edge.due("1 sits as it did", x.ofBuyer(1, 1), 1);
    }

    private static void placesOfMostSeats() {
        Edge.of("Promise 21", "PLACES, as a set");
        DeafAuction x = Check.in("a46;b20;h20");
        x.sit(0, 23);
        Edge.due("24 seats, 0 in the last", x.places(0), (1 << 24) - 1 - 2);
        Edge.due("24 seats, 1", x.places(1), (1 << 23) - 1);
        x.worth(1, 0, 1);
        x.reading(0, 1);
        x.sit(0, 9);
        int right = 0;
        for (int seat = 0; seat < 24; seat++) {
            // Seat 9 is taken, seat 15 is hidden by it.
            right |= seat % 6 >= 3 && seat != 9 && seat != 15 ? 1 << seat : 0;
        }
        Edge.due("those on the right from which it is seen", x.places(1), right);
    }

    private static void reading() {
        Edge.of("Promise 18", "A READING: its number");
        DeafAuction x = Check.in("a12;b20;b20");
        for (int lot = 0; lot < 4; lot++) {
            Edge.due("of lot " + lot, x.reading(lot, 99 * (lot % 2)), lot);
        }
        Edge.of("Promise 18", "OUTSIDE: price (0 .. 99)");
        Edge.due("-1", x.reading(0, -1), Check.OUTSIDE);
        Edge.due("100", x.reading(0, 100), Check.OUTSIDE);
        Edge.due("the least", x.reading(0, Check.LEAST), Check.OUTSIDE);
        Edge.due("the most", x.reading(0, Check.MOST), Check.OUTSIDE);
        Edge.due("0", x.reading(0, 0), 4);
        Edge.due("99", x.reading(0, 99), 5);
        Edge.of("Promise 18", "FULL");
        Edge.due("0, one too many", x.reading(0, 0), Check.FULL);
        Edge.due("100, one too many", x.reading(0, 100), Check.OUTSIDE);
        Edge.due("lot 4, one too many", x.reading(4, 100), Check.UNKNOWN);
    }

    private static void back() {
        Edge.of("Promise 19", "The last k READINGS (0 .. as many as there are) are taken back: how many are left");
        DeafAuction x = Check.in("a12;b20;b20");
        x.reading(0, 0);
        x.reading(0, 1);
        x.reading(0, 0);
        Edge.due("0", x.back(0), 3);
        Edge.due("not so by the second", x.places(0), 0);
        Edge.due("the last one", x.back(1), 2);
        Edge.due("still not so by the second", x.places(0), 0);
        Edge.due("the second", x.back(1), 1);
        Edge.due("so by the first", x.places(0), 1);
        x.reading(1, 0);
        x.reading(2, 0);
        Edge.due("one too many", x.back(4), Check.OUTSIDE);
        Edge.due("as many as there are", x.back(3), 0);
        for (int k = 0; k < 6; k++) {
            x.reading(3, 0);
        }
        Edge.due("seven of six", x.back(7), Check.OUTSIDE);
        Edge.due("six of six", x.back(6), 0);
    }

    private static void backOfNone() {
        Edge.of("Promise 19", "OUTSIDE");
        DeafAuction x = new DeafAuction();
        Edge.due("no hall: none of none", x.back(0), 0);
        Edge.due("no hall: 1", x.back(1), Check.OUTSIDE);
        Edge.due("no hall: -1", x.back(-1), Check.OUTSIDE);
        x = Check.in("a12;b20;b20");
        Edge.due("none of none", x.back(0), 0);
        Edge.due("1 of none", x.back(1), Check.OUTSIDE);
        x.reading(0, 0);
        Edge.due("-1", x.back(-1), Check.OUTSIDE);
        Edge.due("the least", x.back(Check.LEAST), Check.OUTSIDE);
        Edge.due("the most", x.back(Check.MOST), Check.OUTSIDE);
        Edge.due("one is left", x.many(3), 1);
    }
}
