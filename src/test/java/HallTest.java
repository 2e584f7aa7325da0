/** Promises 1 to 7: a new object, the hall, its buyers. */
public final class HallTest {
    private HallTest() {
    }

    public static void main(String[] args) {
        newObject();
        takenTexts();
        firstFaults();
        lanesOfTexts();
        refusalsOfHall();
        allAnew();
        ofBuyer();
        worth();
        limit();
        sit();
        law();
        Check.finish();
    }

    private static void newObject() {
        DeafAuction x = new DeafAuction();
        for (int what = 0; what < 4; what++) {
            Check.due(1, "many(" + what + ")", x.many(what), 0);
        }
        Check.due(1, "trace()", x.trace(), 0);
        Check.due(1, "fault()", x.fault(), 0);
        for (int k = 0; k < 4; k++) {
            Check.due(1, "lose", x.lose(k), 0);
            for (int lane = 0; lane < 3; lane++) {
                Check.due(1, "cell", x.cell(k, 0, lane), Check.LOST);
                Check.due(1, "fault()", x.fault(), 1);
            }
        }
        Check.due(1, "ofBuyer(0, 0)", x.ofBuyer(0, 0), Check.UNKNOWN);
        Check.due(1, "sit(0, 0)", x.sit(0, 0), Check.UNKNOWN);
        Check.due(1, "sale(0, 0)", x.sale(0, 0), Check.STATE);
        DeafAuction y = Check.in("a12;b01;n99");
        Check.due(1, "another object", x.many(0), 0);
        Check.due(1, "another object", y.many(0), 2);
    }

    private static void takenTexts() {
        DeafAuction x = new DeafAuction();
        Check.due(2, "the least", Check.hall(x, "a12;b01;b10"), 2);
        Check.due(32, "many(1)", x.many(1), 2);
        Check.due(2, "the greatest", Check.hall(x, "a46;b99;h09;n90;b01;h10;n55"), 6);
        Check.due(32, "many(1)", x.many(1), 24);
        Check.due(2, "as many as seats", Check.hall(x, "a13;b99;h99;n99"), 3);
        Check.due(2, "a row of 5", Check.hall(x, "a35;b99;h99;n99;b01"), 4);
        Check.due(32, "many(1)", x.many(1), 15);
        Check.due(32, "many(0)", x.many(0), 4);
        Check.due(31, "fault()", x.fault(), 0);
    }

    private static void fault(DeafAuction x, String text, int place) {
        Check.due(2, "hall of '" + text + "'", Check.hall(x, text), -100 - place);
        Check.due(31, "fault()", x.fault(), 0);
        Check.due(2, "many(0)", x.many(0), 0);
    }

    private static void firstFaults() {
        DeafAuction x = new DeafAuction();
        fault(x, "", 0);
        fault(x, "b", 0);
        fault(x, "A12;b01;b10", 0);
        fault(x, "a", 1);
        fault(x, "a0", 1);
        fault(x, "a52;b01;b10", 1);
        fault(x, "a1", 2);
        fault(x, "a11;b01;b10", 2);
        fault(x, "a47", 2);
        fault(x, "a12", 3);
        fault(x, "a12b", 3);
        fault(x, "a12;", 4);
        fault(x, "a12;a", 4);
        fault(x, "a12;;", 4);
        fault(x, "a12;b", 5);
        fault(x, "a12;bb", 5);
        fault(x, "a12;b/0", 5);
        fault(x, "a12;b:0", 5);
        fault(x, "a12;b0", 6);
        fault(x, "a12;b00", 6);
        fault(x, "a12;b0;", 6);
        fault(x, "a12;b1", 6);
        fault(x, "a12;b1:", 6);
        fault(x, "a12;b1/", 6);
        fault(x, "a12;b10", 7);
        fault(x, "a12;b10 ", 7);
        fault(x, "a12;b10;", 8);
        fault(x, "a12;b10;h", 9);
        fault(x, "a12;b10;h0", 10);
        fault(x, "a12;b10;h00", 10);
        fault(x, "a12;b10;h05x", 11);
        fault(x, "a12;b10;h05;", 11);
        fault(x, "a12;b10;h05;b10", 11);
        fault(x, "a13;b10;h05;", 12);
        fault(x, "a13;b10;h05;b1", 14);
        fault(x, "a13;b10;h05;b10;b10", 15);
        fault(x, "a46;b10;h05;b10;b10;b10;b10;", 27);
        fault(x, "a46;b10;h05;b10;b10;b10;b10;x", 27);
    }

    private static void lanesOfTexts() {
        DeafAuction x = new DeafAuction();
        String text = "a12;h07;n80";
        for (int lane = 0; lane < 3; lane++) {
            Check.fill(x, lane, lane, Check.codes("zz" + text + "z"));
            Check.due(2, "inside a row", x.hall(lane, lane, 2, 11), 2);
            Check.due(2, "ended by n", x.hall(lane, lane, 2, 10), -110);
            Check.due(2, "one code beyond", x.hall(lane, lane, 2, 12), -111);
            Check.due(2, "places are told from 0 on", x.hall(lane, lane, 1, 11), -100);
        }
        x.put(0, 2, 'a' + 256);
        Check.due(2, "a byte is cut to a", x.hall(0, 0, 2, 11), 2);
        x.put(1, 2, 'a' + 256);
        Check.due(2, "a short is not", x.hall(1, 1, 2, 11), -100);
        x.put(1, 2, 'a' + 65536);
        Check.due(2, "a short is cut to a", x.hall(1, 1, 2, 11), 2);
        x.put(2, 2, 'a' + 65536);
        Check.due(2, "an int is not", x.hall(2, 2, 2, 11), -100);
    }

    private static void refuse(DeafAuction x, int[] call, int want, int fault) {
        int got = x.hall(call[0], call[1], call[2], call[3]);
        String told = "hall(" + call[0] + ", " + call[1] + ", " + call[2] + ", " + call[3] + ")";
        Check.due(2, told, got, want);
        Check.due(31, "fault() after " + told, x.fault(), fault);
    }

    private static void refusalsOfHall() {
        DeafAuction x = new DeafAuction();
        Check.fill(x, 1, 1, Check.codes("a12;b01;b10"));
        refuse(x, new int[] {4, 3, -1, -1}, Check.UNKNOWN, 0);
        refuse(x, new int[] {-1, 0, 0, 0}, Check.UNKNOWN, 0);
        refuse(x, new int[] {0, 3, -1, -1}, Check.OUTSIDE, 0);
        refuse(x, new int[] {1, -1, -1, -1}, Check.OUTSIDE, 0);
        refuse(x, new int[] {0, 0, -1, -1}, Check.NULL, 1);
        refuse(x, new int[] {0, 2, 0, 0}, Check.NULL, 1);
        refuse(x, new int[] {1, 0, -1, -1}, Check.CAST, 2);
        refuse(x, new int[] {1, 2, 0, 11}, Check.CAST, 2);
        refuse(x, new int[] {1, 1, -1, -1}, Check.SIZE, 4);
        refuse(x, new int[] {1, 1, 0, Check.LEAST}, Check.SIZE, 4);
        refuse(x, new int[] {1, 1, -1, 0}, Check.INDEX, 3);
        refuse(x, new int[] {1, 1, 12, 0}, Check.INDEX, 3);
        refuse(x, new int[] {1, 1, 11, 1}, Check.INDEX, 3);
        refuse(x, new int[] {1, 1, 0, 12}, Check.INDEX, 3);
        refuse(x, new int[] {1, 1, 1, Check.MOST}, Check.INDEX, 3);
        refuse(x, new int[] {1, 1, Check.MOST, Check.MOST}, Check.INDEX, 3);
        refuse(x, new int[] {1, 1, Check.LEAST, 5}, Check.INDEX, 3);
        refuse(x, new int[] {1, 1, 11, 0}, -100, 0);
        Check.due(2, "many(0)", x.many(0), 0);
        refuse(x, new int[] {1, 1, 0, 11}, 2, 0);
    }

    private static void allAnew() {
        DeafAuction x = Check.in("a24;b30;h40;n50");
        Check.worths(x, 3, 7, 8, 9);
        x.law(2);
        x.sit(0, 7);
        x.reading(0, 5);
        Check.due(27, "tell(0)", x.tell(0), 30);
        Check.due(2, "a text that is not taken", Check.hall(x, "a24;b30;h40;n5"), -114);
        Check.due(2, "keeps the buyers", x.many(0), 3);
        Check.due(2, "keeps the seats", x.many(1), 8);
        Check.due(2, "keeps the law", x.many(2), 2);
        Check.due(2, "keeps the readings", x.many(3), 1);
        Check.due(2, "keeps what lots are worth", x.worth(2, 3, 9), 9);
        Check.due(2, "keeps where one sits", x.ofBuyer(0, 1), 7);
        Check.due(2, "a text that is taken", Check.hall(x, "a23;n31;b41"), 2);
        Check.due(2, "makes the buyers anew", x.many(0), 2);
        Check.due(2, "makes the seats anew", x.many(1), 6);
        Check.due(2, "makes the law anew", x.many(2), 0);
        Check.due(2, "makes the readings anew", x.many(3), 0);
        for (int lot = 0; lot < 4; lot++) {
            Check.due(2, "makes worths anew", x.worth(0, lot, 0), 0);
            Check.due(2, "makes worths anew", x.worth(1, lot, 0), 0);
        }
        Check.due(2, "makes kinds anew", x.ofBuyer(0, 0), 2);
        Check.due(2, "makes places anew", x.ofBuyer(0, 1), 0);
        Check.due(2, "makes purses anew", x.ofBuyer(0, 2), 31);
        Check.due(2, "no third buyer", x.ofBuyer(2, 0), Check.UNKNOWN);
        Check.due(30, "the trace stays", x.trace(), 1);
        Check.due(2, "the sheets stay", x.cell(0, 3, 2), ';');
    }

    private static void ofBuyer() {
        DeafAuction x = Check.in("a23;b05;h60;n99;b10;h11;n12");
        int[][] want = {{0, 0, 5, 1}, {1, 1, 60, 1}, {2, 2, 99, 1}, {0, 3, 10, 1}, {1, 4, 11, 0}, {2, 5, 12, 0}};
        for (int b = 0; b < 6; b++) {
            for (int what = 0; what < 4; what++) {
                Check.due(3, "ofBuyer(" + b + ", " + what + ")", x.ofBuyer(b, what), want[b][what]);
            }
        }
        Check.due(3, "ofBuyer(0, 4)", x.ofBuyer(0, 4), Check.OUTSIDE);
        Check.due(3, "ofBuyer(0, -1)", x.ofBuyer(0, -1), Check.OUTSIDE);
        Check.due(3, "ofBuyer(6, 4)", x.ofBuyer(6, 4), Check.UNKNOWN);
        Check.due(3, "ofBuyer(-1, 0)", x.ofBuyer(-1, 0), Check.UNKNOWN);
        // In a hall with free seats one is seen as soon as nobody sits right ahead.
        DeafAuction y = Check.in("a42;b05;h60;n99");
        Check.due(3, "behind 0", y.ofBuyer(2, 3), 0);
        y.sit(2, 4);
        Check.due(3, "two rows behind 0", y.ofBuyer(2, 3), 1);
        y.sit(1, 2);
        Check.due(3, "behind 1", y.ofBuyer(2, 3), 0);
        Check.due(3, "1 is behind 0", y.ofBuyer(1, 3), 0);
        y.sit(0, 3);
        Check.due(3, "beside 0", y.ofBuyer(1, 3), 1);
        y.sit(0, 6);
        Check.due(3, "a buyer is always seen", y.ofBuyer(0, 3), 1);
    }

    private static void worth() {
        DeafAuction x = new DeafAuction();
        Check.due(4, "no hall", x.worth(0, 0, 100), Check.UNKNOWN);
        x = Check.in("a12;b05;h60");
        Check.due(4, "worth(0, 0, 99)", x.worth(0, 0, 99), 0);
        Check.due(4, "worth(0, 0, 0)", x.worth(0, 0, 0), 99);
        Check.due(4, "worth(0, 0, 7)", x.worth(0, 0, 7), 0);
        Check.due(4, "worth(1, 3, 8)", x.worth(1, 3, 8), 0);
        Check.due(4, "worth(0, 0, 100)", x.worth(0, 0, 100), Check.OUTSIDE);
        Check.due(4, "worth(0, 0, -1)", x.worth(0, 0, -1), Check.OUTSIDE);
        Check.due(4, "worth(2, 0, 100)", x.worth(2, 0, 100), Check.UNKNOWN);
        Check.due(4, "worth(-1, 0, 0)", x.worth(-1, 0, 0), Check.UNKNOWN);
        Check.due(4, "worth(0, 4, 100)", x.worth(0, 4, 100), Check.UNKNOWN);
        Check.due(4, "worth(0, -1, 0)", x.worth(0, -1, 0), Check.UNKNOWN);
        Check.due(4, "of the one", x.worth(0, 0, 7), 7);
        Check.due(4, "of the other", x.worth(1, 3, 8), 8);
        Check.due(4, "the others are 0", x.worth(1, 0, 0), 0);
    }

    private static void limit() {
        DeafAuction x = Check.in("a13;b20;h20;n20");
        int[] worths = {0, 1, 2, 3, 19, 20, 21, 99};
        int[] wants = {0, 1, 2, 3, 19, 20, 20, 20};
        int[] nervous = {0, 0, 0, 1, 17, 18, 18, 18};
        for (int t = 0; t < worths.length; t++) {
            Check.worths(x, 2, worths[t], worths[t], worths[t]);
            Check.due(5, "of a buyer", x.limit(0, 2), wants[t]);
            Check.due(5, "of a hatted one", x.limit(1, 2), wants[t]);
            Check.due(5, "of a nervous one", x.limit(2, 2), nervous[t]);
        }
        Check.due(5, "of another lot", x.limit(0, 1), 0);
        Check.due(5, "limit(3, 0)", x.limit(3, 0), Check.UNKNOWN);
        Check.due(5, "limit(-1, 0)", x.limit(-1, 0), Check.UNKNOWN);
        Check.due(5, "limit(0, 4)", x.limit(0, 4), Check.UNKNOWN);
        Check.due(5, "limit(0, -1)", x.limit(0, -1), Check.UNKNOWN);
        DeafAuction poor = Check.in("a12;n01;n02");
        Check.worths(poor, 0, 99, 99);
        Check.due(5, "of a poor nervous one", poor.limit(0, 0), 0);
        Check.due(5, "of a poor nervous one", poor.limit(1, 0), 0);
    }

    private static void sit() {
        DeafAuction x = Check.in("a22;b20;h20");
        Check.due(6, "sit(0, 3)", x.sit(0, 3), 0);
        Check.due(6, "sit(0, 3) again", x.sit(0, 3), 3);
        Check.due(6, "sit(0, 1)", x.sit(0, 1), Check.STATE);
        Check.due(6, "sit(1, 3)", x.sit(1, 3), Check.STATE);
        Check.due(6, "sit(1, 0)", x.sit(1, 0), 1);
        Check.due(6, "sit(0, 4)", x.sit(0, 4), Check.UNKNOWN);
        Check.due(6, "sit(0, -1)", x.sit(0, -1), Check.UNKNOWN);
        Check.due(6, "sit(2, 0)", x.sit(2, 0), Check.UNKNOWN);
        Check.due(6, "sit(-1, 0)", x.sit(-1, 0), Check.UNKNOWN);
        Check.due(6, "where 0 sits", x.ofBuyer(0, 1), 3);
        Check.due(6, "where 1 sits", x.ofBuyer(1, 1), 0);
    }

    private static void law() {
        DeafAuction x = new DeafAuction();
        Check.due(7, "law(3), no hall", x.law(3), Check.OUTSIDE);
        Check.due(7, "law(-1), no hall", x.law(-1), Check.OUTSIDE);
        Check.due(7, "law(2), no hall", x.law(2), Check.STATE);
        x = Check.in("a22;b20;h20");
        Check.due(7, "law(2)", x.law(2), 0);
        Check.due(7, "law(1)", x.law(1), 2);
        Check.due(7, "law(3)", x.law(3), Check.OUTSIDE);
        Check.due(7, "law(0)", x.law(0), 1);
        Check.due(7, "many(2)", x.many(2), 0);
    }
}
