/** The edges of text 1 and of promises 1 to 7, each by a test of its own, on new objects. */
final class HallEdges {
    private static final String DIGITS = "0123456789";
    private static final String LONGEST = "a46;b01;h99;n50;b10;h20;n30";

    private HallEdges() {
    }

    static void run() {
        newObject();
        rows();
        wide();
        seats();
        howManyBuyers();
        noMoreThanSeats();
        firstSeats();
        letters();
        purses();
        faultAtEachPlace();
        firstOfSeveralFaults();
        zeroZero();
        oneBuyerTooMany();
        endsTooSoon();
        codesByNumber();
        kinds();
        worthNothingAnew();
        lawAnew();
        readingsAnew();
        seatsAnew();
        lawLeft();
        lawRight();
        lawNone();
        textInsideRow();
        textAtEndOfRow();
        ofBuyer();
        worth();
        limit();
        sit();
        law();
    }

    private static void newObject() {
        Edge.of("Promise 1", "No HALL (no SEATS, BUYERS)");
        DeafAuction x = new DeafAuction();
        Edge.due("no buyers", x.many(0), 0);
        Edge.due("no seats", x.many(1), 0);
        Edge.due("no first buyer", x.ofBuyer(0, 0), Check.UNKNOWN);
        Edge.due("no first seat", x.sit(0, 0), Check.UNKNOWN);
        Edge.due("no hall", x.sale(0, 0), Check.STATE);
        Edge.of("Promise 1", "SHEETS have nothing");
        for (int k = 0; k < 4; k++) {
            Edge.due("sheet " + k + " has nothing to lose", x.lose(k), 0);
            Edge.due(x, "put in sheet " + k, x.put(k, 0, 0), Check.NULL, 1);
        }
    }

    private static void rows() {
        Edge.of("Text 1", "a digit 1 .. 4 (ROWS)");
        for (char digit = '/'; digit <= ':'; digit++) {
            DeafAuction x = new DeafAuction();
            boolean taken = digit >= '1' && digit <= '4';
            Edge.due("rows " + digit, Check.hall(x, "a" + digit + "2;b10;b10"), taken ? 2 : -101);
            Edge.due("seats of rows " + digit, x.many(1), taken ? 2 * (digit - '0') : 0);
        }
    }

    private static void wide() {
        Edge.of("Text 1", "a digit 2 .. 6 (WIDE");
        for (char digit = '/'; digit <= ':'; digit++) {
            DeafAuction x = new DeafAuction();
            boolean taken = digit >= '2' && digit <= '6';
            Edge.due("wide " + digit, Check.hall(x, "a3" + digit + ";b10;b10"), taken ? 2 : -102);
            Edge.due("seats of wide " + digit, x.many(1), taken ? 3 * (digit - '0') : 0);
        }
    }

    private static void seats() {
        Edge.of("Text 1", "SEATS of a row, numbered from 0 on, row by row from the front, in a row from the left");
        for (int rows = 1; rows <= 4; rows++) {
            for (int wide = 2; wide <= 6; wide++) {
                String which = "a" + rows + wide;
                DeafAuction x = Check.in(which + ";b10;h10");
                int seats = rows * wide;
                Edge.due(which + ": seats", x.many(1), seats);
                Edge.due(which + ": below the first", x.sit(0, -1), Check.UNKNOWN);
                Edge.due(which + ": one too many", x.sit(0, seats), Check.UNKNOWN);
                Edge.due(which + ": the last", x.sit(1, seats - 1), 1);
                Edge.due(which + ": the first", x.sit(0, 0), 0);
                // Who sits in the last seat is hidden by the seat of its column in the row ahead.
                int ahead = seats - 1 - wide;
                Edge.due(which + ": is seen", x.ofBuyer(1, 3), 1);
                Edge.due(which + ": right ahead", x.sit(0, ahead), rows == 1 ? Check.UNKNOWN : 0);
                Edge.due(which + ": is hidden", x.ofBuyer(1, 3), rows == 1 ? 1 : 0);
            }
        }
    }

    private static void howManyBuyers() {
        Edge.of("Text 1", "then 2 to 6 BUYERS");
        int[] wants = {-103, -107, 2, 3, 4, 5, 6, -127, -127};
        for (int count = 0; count < wants.length; count++) {
            DeafAuction x = new DeafAuction();
            Edge.due(count + " buyers", Check.hall(x, "a46" + ";b10".repeat(count)), wants[count]);
            Edge.due("many(0) of " + count, x.many(0), Math.max(0, wants[count]));
        }
    }

    private static void noMoreThanSeats() {
        Edge.of("Text 1", "no more than there are SEATS");
        int[][] halls = {{1, 2}, {1, 3}, {1, 4}, {1, 5}, {1, 6}, {2, 2}, {2, 3}, {3, 2}};
        for (int[] hall : halls) {
            int seats = hall[0] * hall[1];
            String head = "a" + hall[0] + hall[1];
            DeafAuction x = new DeafAuction();
            Edge.due(head + ": one more", Check.hall(x, head + ";h05".repeat(seats + 1)), -103 - 4 * seats);
            Edge.due(head + ": none came", x.many(0), 0);
            Edge.due(head + ": as many", Check.hall(x, head + ";h05".repeat(seats)), seats);
            Edge.due(head + ": all came", x.many(0), seats);
        }
    }

    private static void firstSeats() {
        Edge.of("Text 1", "numbered from 0 on (at first in the SEATS of their numbers)");
        DeafAuction x = Check.in("a23;b01;h02;n03;b04;h05;n06");
        for (int b = 0; b < 6; b++) {
            Edge.due("seat of " + b, x.ofBuyer(b, 1), b);
            Edge.due("purse of " + b, x.ofBuyer(b, 2), b + 1);
        }
        Edge.due("none below 0", x.ofBuyer(-1, 1), Check.UNKNOWN);
        Edge.due("none above 5", x.ofBuyer(6, 1), Check.UNKNOWN);
    }

    private static void letters() {
        Edge.of("Text 1", "and a letter");
        for (int code = -128; code < 256; code++) {
            DeafAuction x = new DeafAuction();
            int[] text = Check.codes("a12;?10;b10");
            text[4] = code;
            Check.fill(x, 0, 2, text);
            int kind = "bhn".indexOf(code);
            Edge.due("letter " + code, x.hall(0, 2, 0, 11), kind < 0 ? -104 : 2);
            Edge.due("kind by letter " + code, x.ofBuyer(0, 0), kind < 0 ? Check.UNKNOWN : kind);
        }
    }

    private static void purses() {
        Edge.of("Text 1", "two digits 01 .. 99 (PURSE)");
        for (int purse = 0; purse < 100; purse++) {
            DeafAuction x = new DeafAuction();
            String told = "" + purse / 10 + purse % 10;
            Edge.due("a purse of " + told, Check.hall(x, "a12;b10;b" + told), purse == 0 ? -110 : 2);
            Edge.due("has " + told, x.ofBuyer(1, 2), purse == 0 ? Check.UNKNOWN : purse);
        }
    }

    /** At each place each code: with those that fit the text is taken, at all others it faults. */
    private static void faultAtEachPlace() {
        Edge.of("Text 1", "FIRST FAULT: the place (from 0 on) of the first code with which no TEXT goes on");
        String text = "a24;b11;h07;n99";
        String[] fits = {"a", "1234", "23456", ";", "bhn", DIGITS, DIGITS, ";", "bhn", DIGITS,
            "123456789", ";", "bhn", DIGITS, DIGITS};
        for (int place = 0; place < fits.length; place++) {
            for (int code = -2; code < 130; code++) {
                DeafAuction x = new DeafAuction();
                int[] codes = Check.codes(text);
                codes[place] = code;
                Check.fill(x, 0, 2, codes);
                int want = fits[place].indexOf(code) < 0 ? -100 - place : 3;
                Edge.due(x, "code " + code + " at " + place, x.hall(0, 2, 0, 15), want, 0);
            }
        }
    }

    private static void fault(String text, int place) {
        DeafAuction x = new DeafAuction();
        Edge.due(x, "'" + text + "'", Check.hall(x, text), -100 - place, 0);
        Edge.due("no hall by '" + text + "'", x.many(0), 0);
    }

    private static void firstOfSeveralFaults() {
        Edge.of("Text 1", "the first code with which no TEXT goes on");
        fault("x99;x00", 0);
        fault("a99;x00", 1);
        fault("a19;x00", 2);
        fault("a12xx00", 3);
        fault("a12;x00", 4);
        fault("a12;bx0;x", 5);
        fault("a12;b0x;x", 6);
        fault("a12;b10x", 7);
    }

    private static void zeroZero() {
        Edge.of("Text 1", "of 00 the second one");
        fault("a12;b00;b10", 6);
        fault("a12;b10;h00", 10);
        fault("a46;b10;h10;n10;b10;h10;n00", 26);
        fault("a12;b00", 6);
        DeafAuction x = new DeafAuction();
        Edge.due("01 is none", Check.hall(x, "a12;b01;b10"), 2);
        Edge.due("10 is none", Check.hall(x, "a12;b10;b10"), 2);
    }

    private static void oneBuyerTooMany() {
        Edge.of("Text 1", "the ; of a BUYER too many");
        fault("a12;b10;b10;", 11);
        fault("a12;b10;b10;b10", 11);
        fault("a13;b10;b10;b10;b10", 15);
        fault("a22;b10;b10;b10;b10;b10", 19);
        fault("a15;b10;b10;b10;b10;b10;b10", 23);
        fault(LONGEST + ";", 27);
        fault(LONGEST + ";b10", 27);
        fault(LONGEST + "x", 27);
    }

    private static void endsTooSoon() {
        Edge.of("Text 1", "how many codes there are, if it just ends too soon");
        for (int length = 0; length <= LONGEST.length(); length++) {
            DeafAuction x = new DeafAuction();
            boolean whole = length >= 11 && length % 4 == 3;
            int want = whole ? length / 4 : -100 - length;
            Edge.due(x, length + " codes", Check.hall(x, LONGEST.substring(0, length)), want, 0);
            Edge.due("many(0) after " + length + " codes", x.many(0), whole ? length / 4 : 0);
        }
    }

    private static void codesByNumber() {
        Edge.of("Text 1", "a 97, b 98, h 104, n 110, ; 59, digits 48 .. 57");
        int[] text = {97, 49, 51, 59, 98, 48, 57, 59, 104, 57, 48, 59, 110, 49, 50};
        int[][] wants = {{0, 0, 9}, {1, 1, 90}, {2, 2, 12}};
        for (int lane = 0; lane < 3; lane++) {
            DeafAuction x = new DeafAuction();
            Check.fill(x, 3, lane, text);
            Edge.due("by numbers, lane " + lane, x.hall(3, lane, 0, 15), 3);
            for (int b = 0; b < 3; b++) {
                Edge.due("kind of " + b, x.ofBuyer(b, 0), wants[b][0]);
                Edge.due("seat of " + b, x.ofBuyer(b, 1), wants[b][1]);
                Edge.due("purse of " + b, x.ofBuyer(b, 2), wants[b][2]);
            }
        }
    }

    private static void kinds() {
        DeafAuction x = Check.in("a13;b10;h10;n10");
        Edge.of("Text 1", "Kinds: 0 BUYER (b)");
        Edge.due("kind of b", x.ofBuyer(0, 0), 0);
        Edge.due(x, "b as a buyer", x.as(0, 0), 1, 0);
        Edge.due(x, "b as a hatted one", x.as(0, 1), Check.CAST, 2);
        Edge.due(x, "b as a nervous one", x.as(0, 2), Check.CAST, 2);
        Edge.of("Text 1", "1 HATTED (h), a BUYER");
        Edge.due("kind of h", x.ofBuyer(1, 0), 1);
        Edge.due(x, "h as a buyer", x.as(1, 0), 1, 0);
        Edge.due(x, "h as a hatted one", x.as(1, 1), 1, 0);
        Edge.due(x, "h as a nervous one", x.as(1, 2), Check.CAST, 2);
        Edge.of("Text 1", "2 NERVOUS (n), a HATTED");
        Edge.due("kind of n", x.ofBuyer(2, 0), 2);
        Edge.due(x, "n as a buyer", x.as(2, 0), 1, 0);
        Edge.due(x, "n as a hatted one", x.as(2, 1), 1, 0);
        Edge.due(x, "n as a nervous one", x.as(2, 2), 1, 0);
    }

    private static void worthNothingAnew() {
        Edge.of("Text 1", "A TEXT that is taken makes all anew: LOTS 0 .. 3 are WORTH 0 to all");
        DeafAuction x = Check.in("a12;b10;b20");
        for (int lot = 0; lot < 4; lot++) {
            Edge.due("at first", x.worth(0, lot, 99), 0);
            Edge.due("at first", x.worth(1, lot, 1), 0);
        }
        Edge.due("the same text again", x.hall(0, 2, 0, 11), 2);
        for (int lot = 0; lot < 4; lot++) {
            Edge.due("limit of 0 for " + lot, x.limit(0, lot), 0);
            Edge.due("price of " + lot, x.sale(lot, 0), 0);
            Edge.due("worth of " + lot + " to 0", x.worth(0, lot, 0), 0);
            Edge.due("worth of " + lot + " to 1", x.worth(1, lot, 0), 0);
        }
    }

    private static void lawAnew() {
        Edge.of("Text 1", "LAW 0, no READINGS");
        for (int law = 0; law < 3; law++) {
            DeafAuction x = Check.in("a12;b10;b20");
            x.law(law);
            Edge.due("a text that is not taken", x.hall(0, 2, 0, 10), -110);
            Edge.due("the law stays", x.many(2), law);
            Edge.due("the same text again", x.hall(0, 2, 0, 11), 2);
            Edge.due("the law is 0", x.many(2), 0);
            Edge.due("the law was 0", x.law(2), 0);
        }
    }

    private static void readingsAnew() {
        Edge.of("Text 1", "no READINGS");
        DeafAuction x = Check.in("a12;b10;b20");
        Edge.due("none at first", x.many(3), 0);
        for (int k = 0; k < 6; k++) {
            Edge.due("reading", x.reading(0, 7), k);
        }
        Edge.due("a text that is not taken", x.hall(0, 2, 0, 10), -110);
        Edge.due("the readings stay", x.many(3), 6);
        Edge.due("they are not so", x.places(0), 0);
        Edge.due("the same text again", x.hall(0, 2, 0, 11), 2);
        Edge.due("no readings", x.many(3), 0);
        Edge.due("none to take back", x.back(1), Check.OUTSIDE);
        Edge.due("none that are not so", x.places(0), 1);
        Edge.due("the first number again", x.reading(0, 7), 0);
    }

    /** Nothing of a narrower or a wider hall is left: where rows end, which side is left, hats. */
    private static void seatsAnew() {
        Edge.of("Text 1", "A TEXT that is taken makes all anew");
        DeafAuction x = Check.in("a22;h10;h20;h30;h40");
        Check.worths(x, 0, 9, 0, 9, 0);
        Edge.due("2 is hidden by 0", x.sale(0, 0), 2);
        Edge.due("a wider one", Check.hall(x, "a16;b10;b20"), 2);
        Edge.due("its seats", x.many(1), 6);
        x.worth(1, 0, 9);
        Edge.due("on the left", x.sale(0, 0), 2);
        Edge.due("seat 1 no longer ends a row", x.ends(1, 0), 2);
        x.sit(1, 2);
        Edge.due("seat 2 is on the left now", x.sale(0, 0), 2);
        x.sit(1, 3);
        Edge.due("seat 3 no longer ends a row", x.ends(1, 0), 4);
        Edge.due("a narrower one", Check.hall(x, "a42;b10;b20"), 2);
        Edge.due("its seats", x.many(1), 8);
        x.worth(1, 0, 9);
        Edge.due("on the right", x.sale(0, 0), 1);
        Edge.due("seat 1 ends a row", x.ends(1, 0), 1);
        x.sit(1, 2);
        Edge.due("seat 2 begins a row", x.sale(0, 0), 2);
        Edge.due("and goes on to 3", x.ends(1, 0), 3);
        Edge.due("the hats are gone", x.sale(0, 1), 1);
    }

    /** What one bid from each seat of each hall of two rows brings: 2, or else 1. */
    private static void oneBid(int law, int onLeft, int onRight) {
        int[] lefts = {0, 0, 1, 1, 2, 2, 3};
        for (int wide = 2; wide <= 6; wide++) {
            for (int seat = 0; seat < 2 * wide; seat++) {
                DeafAuction x = Check.in("a2" + wide + ";b10;b20");
                x.law(law);
                if (seat == 0) {
                    x.sit(0, 2 * wide - 1);
                }
                x.sit(1, seat);
                x.worth(1, 0, 20);
                int want = seat % wide < lefts[wide] ? onLeft : onRight;
                Edge.due("wide " + wide + ", seat " + seat + ", law " + law, x.sale(0, 0), want);
            }
        }
    }

    private static void lawLeft() {
        Edge.of("Text 1", "LAW 0: bids from the left (a SEAT whose column is below half of WIDE, cut) count twice");
        oneBid(0, 2, 1);
    }

    private static void lawRight() {
        Edge.of("Text 1", "LAW 1: those from the right (all others)");
        oneBid(1, 1, 2);
    }

    private static void lawNone() {
        Edge.of("Text 1", "LAW 2: none");
        oneBid(2, 1, 1);
    }

    private static void textInsideRow() {
        for (int lane = 0; lane < 3; lane++) {
            Edge.of("Promise 2", "A HALL by a TEXT of n cells of a SHEET from i on, taken as a row of a LANE");
            DeafAuction x = new DeafAuction();
            Check.fill(x, lane, lane, Check.codes("a12;b10;a13;h20;n30;b40;b50"));
            Edge.due("cells behind it are not looked at", x.hall(lane, lane, 8, 15), 3);
            Edge.due("nor are those ahead of it", x.ofBuyer(0, 2), 20);
            Edge.of("Promise 2", "how many BUYERS");
            Edge.due("two", x.hall(lane, lane, 8, 11), 2);
            Edge.due("three", x.hall(lane, lane, 8, 15), 3);
            Edge.of("Promise 2", "-100 less the FIRST FAULT");
            Edge.due("at place 0", x.hall(lane, lane, 1, 11), -100);
            Edge.due("at place 8, not at cell 8", x.hall(lane, lane, 0, 11), -108);
            Edge.due("at place 15, not at cell 23", x.hall(lane, lane, 8, 19), -115);
            Edge.due("the hall stays", x.many(0), 3);
        }
    }

    private static void textAtEndOfRow() {
        Edge.of("Promise 2", "INDEX");
        DeafAuction x = new DeafAuction();
        x.sheet(1, 1, 60);
        int[] codes = Check.codes(LONGEST);
        for (int i = 0; i < codes.length; i++) {
            x.put(1, 33 + i, codes[i]);
        }
        Edge.due(x, "one cell beyond", x.hall(1, 1, 33, 28), Check.INDEX, 3);
        Edge.due(x, "one cell on", x.hall(1, 1, 34, 27), Check.INDEX, 3);
        Edge.due(x, "no cell, beyond all", x.hall(1, 1, 61, 0), Check.INDEX, 3);
        Edge.due(x, "no cell, at the end", x.hall(1, 1, 60, 0), -100, 0);
        Edge.due(x, "the last 27 cells", x.hall(1, 1, 33, 27), 6, 0);
    }

    private static void ofBuyer() {
        Edge.of("Promise 3", "Of a BUYER: 0 kind, 1 SEAT, 2 PURSE, 3 whether it is SEEN (1, 0)");
        DeafAuction x = Check.in("a22;b01;n99;h50");
        int[][] wants = {{0, 0, 1, 1}, {2, 1, 99, 1}, {1, 2, 50, 0}};
        for (int b = 0; b < 3; b++) {
            for (int what = 0; what < 4; what++) {
                Edge.due("ofBuyer(" + b + ", " + what + ")", x.ofBuyer(b, what), wants[b][what]);
            }
        }
        x.sit(2, 3);
        Edge.due("where it sits now", x.ofBuyer(2, 1), 3);
        Edge.due("behind 1 now", x.ofBuyer(2, 3), 0);
        x.sit(1, 2);
        Edge.due("seen now", x.ofBuyer(2, 3), 1);
    }

    private static void worth() {
        Edge.of("Promise 4", "What a LOT (0 .. 3) is WORTH to a BUYER becomes v: what it was");
        DeafAuction x = Check.in("a12;b10;b20");
        for (int lot = 0; lot < 4; lot++) {
            Edge.due("was 0", x.worth(1, lot, 99), 0);
            Edge.due("was 99", x.worth(1, lot, 0), 99);
            Edge.due("was 0 again", x.worth(1, lot, 10 + lot), 0);
        }
        Edge.due("lot -1", x.worth(1, -1, 5), Check.UNKNOWN);
        Edge.due("lot 4", x.worth(1, 4, 5), Check.UNKNOWN);
        for (int lot = 0; lot < 4; lot++) {
            Edge.due("each lot its own", x.worth(1, lot, 0), 10 + lot);
            Edge.due("each buyer its own", x.worth(0, lot, 0), 0);
        }
        Edge.of("Promise 4", "OUTSIDE: 0 .. 99");
        Edge.due("-1", x.worth(0, 0, -1), Check.OUTSIDE);
        Edge.due("100", x.worth(0, 0, 100), Check.OUTSIDE);
        Edge.due("the least", x.worth(0, 0, Check.LEAST), Check.OUTSIDE);
        Edge.due("the most", x.worth(0, 0, Check.MOST), Check.OUTSIDE);
        Edge.due("99", x.worth(0, 0, 99), 0);
        Edge.due("0", x.worth(0, 0, 0), 99);
    }

    private static void limit() {
        Edge.of("Promise 5", "LIMIT of a BUYER for a LOT");
        DeafAuction x = Check.in("a12;b10;n10");
        for (int lot = 0; lot < 4; lot++) {
            Edge.due("worth nothing", x.limit(1, lot), 0);
            x.worth(0, lot, 8 + lot);
            x.worth(1, lot, 8 + lot);
        }
        int[] wants = {8, 9, 10, 10};
        for (int lot = 0; lot < 4; lot++) {
            Edge.due("of 0 for " + lot, x.limit(0, lot), wants[lot]);
            Edge.due("of 1 for " + lot, x.limit(1, lot), wants[lot] - 2);
        }
    }

    private static void sit() {
        Edge.of("Promise 6", "A BUYER sits down in a SEAT: in which it sat");
        DeafAuction x = Check.in("a22;b10;b20");
        Edge.due("in its own", x.sit(0, 0), 0);
        Edge.due("in the last", x.sit(0, 3), 0);
        Edge.due("in its own again", x.sit(0, 3), 3);
        Edge.due("1 in the one left free", x.sit(1, 0), 1);
        Edge.due("0 beside it", x.sit(0, 1), 3);
        Edge.of("Promise 6", "STATE: another one sits there");
        Edge.due("0 where 1 sits", x.sit(0, 0), Check.STATE);
        Edge.due("1 where 0 sits", x.sit(1, 1), Check.STATE);
        Edge.due("0 sits as it did", x.ofBuyer(0, 1), 1);
        Edge.due("1 sits as it did", x.ofBuyer(1, 1), 0);
    }

    private static void law() {
        Edge.of("Promise 7", "The LAW becomes v: what it was");
        DeafAuction x = Check.in("a22;b10;b20");
        int was = 0;
        for (int v : new int[] {0, 2, 2, 1, 1, 0, 1, 2, 0}) {
            Edge.due("law(" + v + ")", x.law(v), was);
            Edge.due("many(2)", x.many(2), v);
            was = v;
        }
        Edge.of("Promise 7", "OUTSIDE");
        Edge.due("law(-1)", x.law(-1), Check.OUTSIDE);
        Edge.due("law(3)", x.law(3), Check.OUTSIDE);
        Edge.due("the law stays", x.many(2), 0);
    }
}
