import java.util.ArrayList;
import java.util.Collections;
import java.util.List;
import java.util.TreeMap;
import java.util.regex.Matcher;
import java.util.regex.Pattern;

/**
 * The document once more, written as unlike the class as can be: rows of Java's own lanes whose
 * faults are the machine's, a text by a pattern, sales over a map from seats to buyers. ModelTest
 * holds the two against each other.
 */
final class Model {
    private static final Pattern TEXT =
            Pattern.compile("a[1-4][2-6](;[bhn](0[1-9]|[1-9][0-9])){2,6}");

    private final Object[] sheets = new Object[4];
    private List<Buyer> buyers = new ArrayList<>();
    private int rows, wide, law, trace, fault;
    private List<int[]> readings = new ArrayList<>();

    interface Nodded {
        Model home();

        int number();

        default int nod() {
            home().leave(4);
            return number();
        }
    }

    static class Buyer implements Nodded {
        final Model home;
        final int number, purse;
        final int[] worth = new int[4];
        int seat;

        Buyer(Model home, int number, int purse) {
            this.home = home;
            this.number = number;
            this.purse = purse;
            this.seat = number;
        }

        public Model home() {
            return home;
        }

        public int number() {
            return number;
        }

        int tell() {
            return plain();
        }

        int plain() {
            home.leave(1);
            return purse;
        }

        int limit(int worth, int purse) {
            return worth < purse ? worth : purse;
        }
    }

    static class Hatted extends Buyer {
        Hatted(Model home, int number, int purse) {
            super(home, number, purse);
        }

        @Override
        int tell() {
            home.leave(2);
            return super.tell() + 100;
        }
    }

    static class Nervous extends Hatted {
        Nervous(Model home, int number, int purse) {
            super(home, number, purse);
        }

        @Override
        int tell() {
            home.leave(3);
            int first = super.tell();
            return first + plain();
        }

        @Override
        public int nod() {
            home.leave(5);
            return 80;
        }

        @Override
        int limit(int worth, int purse) {
            int far = super.limit(worth, purse) - 2;
            return far < 0 ? 0 : far;
        }
    }

    void leave(int body) {
        trace = trace * 31 + body;
    }

    // ---- the machine's faults

    private interface Work {
        long run();
    }

    /** Runs what the machine may throw in; -10 less the fault then. */
    private long risk(Work work) {
        fault = 0;
        try {
            return work.run();
        } catch (NullPointerException e) {
            fault = 1;
        } catch (ClassCastException | ArrayStoreException e) {
            fault = 2;
        } catch (IndexOutOfBoundsException e) {
            fault = 3;
        } catch (NegativeArraySizeException e) {
            fault = 4;
        }
        return -10 - fault;
    }

    /** n cells from i on of a row of a lane, as the machine hands them out. */
    private static int[] take(Object row, int lane, int i, int n) {
        int[] taken;
        if (lane == 0) {
            byte[] cells = (byte[]) row;
            int length = cells.length;
            taken = new int[n];
            java.util.Objects.checkFromIndexSize(i, n, length);
            for (int q = 0; q < n; q++) {
                taken[q] = cells[i + q];
            }
        } else if (lane == 1) {
            short[] cells = (short[]) row;
            int length = cells.length;
            taken = new int[n];
            java.util.Objects.checkFromIndexSize(i, n, length);
            for (int q = 0; q < n; q++) {
                taken[q] = cells[i + q];
            }
        } else {
            int[] cells = (int[]) row;
            int length = cells.length;
            taken = new int[n];
            java.util.Objects.checkFromIndexSize(i, n, length);
            for (int q = 0; q < n; q++) {
                taken[q] = cells[i + q];
            }
        }
        return taken;
    }

    // ---- 1

    int hall(int sheet, int lane, int i, int n) {
        fault = 0;
        if (sheet < 0 || sheet > 3) {
            return -1;
        }
        if (lane < 0 || lane > 2) {
            return -2;
        }
        int[][] text = new int[1][];
        // A row of n numbers is asked for only when the machine would get so far: n may be huge.
        long answer = risk(() -> {
            text[0] = take(sheets[sheet], lane, i, Math.min(n, 100));
            return 0;
        });
        if (answer < 0) {
            return (int) answer;
        }
        StringBuilder told = new StringBuilder();
        for (int code : text[0]) {
            told.append(code >= 0 && code < 128 ? (char) code : '?');
        }
        for (int end = 1; end <= told.length(); end++) {
            if (!isBeginning(told.substring(0, end))) {
                return -100 - (end - 1);
            }
        }
        if (!TEXT.matcher(told).matches()) {
            return -100 - told.length();
        }
        build(told.toString());
        return buyers.size();
    }

    private static boolean isBeginning(String start) {
        Matcher matcher = TEXT.matcher(start);
        boolean fits = matcher.matches() || matcher.hitEnd();
        if (!fits || start.length() < 3) {
            return fits;
        }
        long marks = start.chars().filter(c -> c == ';').count();
        return marks <= (start.charAt(1) - '0') * (start.charAt(2) - '0');
    }

    private void build(String text) {
        String[] parts = text.split(";");
        rows = parts[0].charAt(1) - '0';
        wide = parts[0].charAt(2) - '0';
        law = 0;
        readings = new ArrayList<>();
        buyers = new ArrayList<>();
        for (int b = 0; b + 1 < parts.length; b++) {
            int purse = Integer.parseInt(parts[b + 1].substring(1));
            char letter = parts[b + 1].charAt(0);
            buyers.add(letter == 'b' ? new Buyer(this, b, purse)
                    : letter == 'h' ? new Hatted(this, b, purse) : new Nervous(this, b, purse));
        }
    }

    private boolean noBuyer(int b) {
        return b < 0 || b >= buyers.size();
    }

    private static boolean noLot(int lot) {
        return lot < 0 || lot > 3;
    }

    int ofBuyer(int b, int what) {
        if (noBuyer(b)) {
            return -1;
        }
        Buyer buyer = buyers.get(b);
        if (what == 0) {
            return buyer instanceof Nervous ? 2 : buyer instanceof Hatted ? 1 : 0;
        }
        if (what == 1) {
            return buyer.seat;
        }
        if (what == 2) {
            return buyer.purse;
        }
        if (what == 3) {
            TreeMap<Integer, Buyer> map = new TreeMap<>();
            buyers.forEach(one -> map.put(one.seat, one));
            return seen(buyer, buyer.seat, map) ? 1 : 0;
        }
        return -2;
    }

    private boolean seen(Buyer buyer, int seat, TreeMap<Integer, Buyer> map) {
        return !(buyer instanceof Hatted) || !map.containsKey(seat - wide);
    }

    int worth(int b, int lot, int v) {
        if (noBuyer(b) || noLot(lot)) {
            return -1;
        }
        if (v < 0 || v > 99) {
            return -2;
        }
        int was = buyers.get(b).worth[lot];
        buyers.get(b).worth[lot] = v;
        return was;
    }

    int limit(int b, int lot) {
        if (noBuyer(b) || noLot(lot)) {
            return -1;
        }
        Buyer buyer = buyers.get(b);
        return buyer.limit(buyer.worth[lot], buyer.purse);
    }

    int sit(int b, int seat) {
        if (noBuyer(b) || seat < 0 || seat >= rows * wide) {
            return -1;
        }
        for (Buyer other : buyers) {
            if (other.number != b && other.seat == seat) {
                return -3;
            }
        }
        int was = buyers.get(b).seat;
        buyers.get(b).seat = seat;
        return was;
    }

    int law(int v) {
        if (v < 0 || v > 2) {
            return -2;
        }
        if (buyers.isEmpty()) {
            return -3;
        }
        int was = law;
        law = v;
        return was;
    }

    // ---- 2

    /** How a sale went. */
    private static final class Sold {
        int price = 0, owner = -9;
        List<Integer> bids = new ArrayList<>();
        TreeMap<Integer, Buyer> map;

        int seatOf(int b) {
            for (int seat : map.keySet()) {
                if (map.get(seat).number == b) {
                    return seat;
                }
            }
            return -99;
        }
    }

    private TreeMap<Integer, Buyer> seated(int set) {
        TreeMap<Integer, Buyer> map = new TreeMap<>();
        for (Buyer buyer : buyers) {
            if ((set & 1 << buyer.number) != 0) {
                map.put(buyer.seat, buyer);
            }
        }
        return map;
    }

    private int[] purses() {
        return buyers.stream().mapToInt(buyer -> buyer.purse).toArray();
    }

    private boolean twice(int seat) {
        boolean left = seat % wide < wide / 2;
        return law == 0 && left || law == 1 && !left;
    }

    private Sold sell(int lot, TreeMap<Integer, Buyer> start, int[] purses, int mute) {
        Sold sold = new Sold();
        sold.map = new TreeMap<>(start);
        while (true) {
            int bidder = -1;
            for (int seat : sold.map.keySet()) {
                Buyer buyer = sold.map.get(seat);
                int raised = sold.price + (twice(seat) ? 2 : 1);
                boolean far = raised <= buyer.limit(buyer.worth[lot], purses[buyer.number]);
                boolean may = buyer.number != sold.owner && (mute & 1 << buyer.number) == 0;
                if (may && far && seen(buyer, seat, sold.map)) {
                    bidder = seat;
                    break;
                }
            }
            if (bidder < 0) {
                return sold;
            }
            Buyer buyer = sold.map.get(bidder);
            sold.price += twice(bidder) ? 2 : 1;
            sold.owner = buyer.number;
            sold.bids.add(100 * sold.price + buyer.number);
            boolean edge = bidder % wide == wide - 1;
            if (!edge && !sold.map.containsKey(bidder + 1)) {
                sold.map.remove(bidder);
                sold.map.put(bidder + 1, buyer);
            }
        }
    }

    private Sold sell(int lot) {
        return sell(lot, seated(-1), purses(), 0);
    }

    int sale(int lot, int what) {
        if (noLot(lot)) {
            return -1;
        }
        if (what < 0 || what > 2) {
            return -2;
        }
        if (buyers.isEmpty()) {
            return -3;
        }
        Sold sold = sell(lot);
        return new int[] {sold.price, sold.owner, sold.bids.size()}[what];
    }

    int bid(int lot, int k) {
        if (noLot(lot) || k < 0) {
            return -1;
        }
        if (buyers.isEmpty()) {
            return -3;
        }
        List<Integer> bids = sell(lot).bids;
        return k < bids.size() ? bids.get(k) : -9;
    }

    int ends(int b, int lot) {
        return noBuyer(b) || noLot(lot) ? -1 : sell(lot).seatOf(b);
    }

    int row(int b, int sheet, int lane, int i, int n) {
        fault = 0;
        if (b != -1 && noBuyer(b) || sheet < 0 || sheet > 3) {
            return -1;
        }
        if (lane < 0 || lane > 2) {
            return -2;
        }
        if (buyers.isEmpty()) {
            return -3;
        }
        int[][] cells = new int[1][];
        long answer = risk(() -> {
            cells[0] = take(sheets[sheet], lane, i, Math.min(n, 100));
            return 0;
        });
        if (answer < 0) {
            return (int) answer;
        }
        List<Integer> lots = new ArrayList<>();
        for (int lot : cells[0]) {
            if (noLot(lot) || lots.contains(lot)) {
                return -1;
            }
            lots.add(lot);
        }
        int[] left = purses();
        int sum = sellAll(lots, left);
        return b == -1 ? sum : left[b];
    }

    private int sellAll(List<Integer> lots, int[] left) {
        TreeMap<Integer, Buyer> map = seated(-1);
        int sum = 0;
        for (int lot : lots) {
            Sold sold = sell(lot, map, left, 0);
            map = sold.map;
            sum += sold.price;
            if (sold.owner >= 0) {
                left[sold.owner] -= sold.price;
            }
        }
        return sum;
    }

    // ---- 3

    private int gainNow(int b, int lot) {
        Sold sold = sell(lot);
        return sold.owner == b ? buyers.get(b).worth[lot] - sold.price : 0;
    }

    int gain(int b, int lot) {
        return noBuyer(b) || noLot(lot) ? -1 : 100 + gainNow(b, lot);
    }

    int best(int b, int lot, int what) {
        if (noBuyer(b) || noLot(lot)) {
            return -1;
        }
        if (what != 0 && what != 1) {
            return -2;
        }
        Buyer buyer = buyers.get(b);
        int own = buyer.seat;
        TreeMap<Integer, Integer> gains = new TreeMap<>();
        for (int seat = 0; seat < rows * wide; seat++) {
            int at = seat;
            if (buyers.stream().noneMatch(one -> one.number != b && one.seat == at)) {
                buyer.seat = seat;
                gains.put(seat, gainNow(b, lot));
                buyer.seat = own;
            }
        }
        int most = Collections.max(gains.values());
        for (int seat : gains.keySet()) {
            if (gains.get(seat) == most) {
                return what == 0 ? seat : 100 + most;
            }
        }
        return -99;
    }

    private static void permute(List<Integer> start, List<List<Integer>> all) {
        if (start.size() == 4) {
            all.add(new ArrayList<>(start));
        }
        for (int lot = 0; lot < 4; lot++) {
            if (!start.contains(lot)) {
                start.add(lot);
                permute(start, all);
                start.remove(start.size() - 1);
            }
        }
    }

    int order(int q) {
        if (q < -1 || q > 3) {
            return -1;
        }
        if (buyers.isEmpty()) {
            return -3;
        }
        List<List<Integer>> all = new ArrayList<>();
        permute(new ArrayList<>(), all);
        List<Integer> best = null;
        int most = -1;
        for (List<Integer> lots : all) {
            int sum = sellAll(lots, purses());
            if (sum > most) {
                most = sum;
                best = lots;
            }
        }
        return q == -1 ? most : best.get(q);
    }

    int ring(int set, int lot) {
        if (noLot(lot)) {
            return -1;
        }
        for (int bit = buyers.size(); bit < 32; bit++) {
            if ((set >>> bit & 1) != 0) {
                return -2;
            }
        }
        if (buyers.isEmpty()) {
            return -3;
        }
        int chosen = -1;
        for (int b = buyers.size() - 1; b >= 0; b--) {
            if ((set >> b & 1) != 0 && (chosen < 0 || limit(b, lot) >= limit(chosen, lot))) {
                chosen = b;
            }
        }
        int mute = chosen < 0 ? 0 : set - (1 << chosen);
        return sell(lot, seated(-1), purses(), mute).price;
    }

    long mean(int lot, int which) {
        if (noLot(lot) || which < 0 || which > 1 || buyers.isEmpty()) {
            return Long.MIN_VALUE;
        }
        long sum = 0;
        long sets = (long) Math.pow(2, buyers.size());
        for (int set = 0; set < sets; set++) {
            sum += sell(lot, seated(set), purses(), 0).price;
        }
        long shared = java.math.BigInteger.valueOf(sum).gcd(java.math.BigInteger.valueOf(sets)).longValue();
        return (which == 0 ? sum : sets) / shared;
    }

    int hangs(int lot) {
        if (noLot(lot)) {
            return -1;
        }
        if (buyers.isEmpty()) {
            return -3;
        }
        int with = sell(lot).owner;
        int set = 0;
        for (Buyer buyer : buyers) {
            int without = sell(lot, seated(~(1 << buyer.number)), purses(), 0).owner;
            set += without == with ? 0 : 1 << buyer.number;
        }
        return set;
    }

    // ---- 4

    int reading(int lot, int price) {
        if (noLot(lot)) {
            return -1;
        }
        if (price < 0 || price > 99) {
            return -2;
        }
        if (buyers.isEmpty()) {
            return -3;
        }
        if (readings.size() == 6) {
            return -4;
        }
        readings.add(new int[] {lot, price});
        return readings.size() - 1;
    }

    int back(int k) {
        if (k < 0 || k > readings.size()) {
            return -2;
        }
        readings = new ArrayList<>(readings.subList(0, readings.size() - k));
        return readings.size();
    }

    private boolean allSo() {
        for (int[] reading : readings) {
            if (sell(reading[0]).price != reading[1]) {
                return false;
            }
        }
        return true;
    }

    int values(int b, int lot, int k) {
        if (noBuyer(b) || noLot(lot) || k < -1) {
            return -1;
        }
        int[] worth = buyers.get(b).worth;
        int own = worth[lot];
        List<Integer> found = new ArrayList<>();
        for (worth[lot] = 0; worth[lot] < 100; worth[lot]++) {
            if (allSo()) {
                found.add(worth[lot]);
            }
        }
        worth[lot] = own;
        return k == -1 ? found.size() : k < found.size() ? found.get(k) : -9;
    }

    int places(int b) {
        if (noBuyer(b)) {
            return -1;
        }
        Buyer buyer = buyers.get(b);
        int own = buyer.seat;
        int set = 0;
        for (int seat = 0; seat < rows * wide; seat++) {
            int at = seat;
            if (buyers.stream().noneMatch(one -> one.number != b && one.seat == at)) {
                buyer.seat = seat;
                set |= allSo() ? 1 << seat : 0;
                buyer.seat = own;
            }
        }
        return set;
    }

    // ---- 5

    int sheet(int k, int lane, int n) {
        fault = 0;
        if (k < 0 || k > 3) {
            return -1;
        }
        if (lane < 0 || lane > 2 || n > 60) {
            return -2;
        }
        return (int) risk(() -> {
            sheets[k] = lane == 0 ? new byte[n] : lane == 1 ? new short[n] : (Object) new int[n];
            return 1;
        });
    }

    int lose(int k) {
        if (k < 0 || k > 3) {
            return -1;
        }
        int had = sheets[k] == null ? 0 : 1;
        sheets[k] = null;
        return had;
    }

    int put(int k, int i, int v) {
        fault = 0;
        if (k < 0 || k > 3) {
            return -1;
        }
        return (int) risk(() -> {
            if (sheets[k] instanceof byte[]) {
                ((byte[]) sheets[k])[i] = (byte) v;
            } else if (sheets[k] instanceof short[]) {
                ((short[]) sheets[k])[i] = (short) v;
            } else {
                ((int[]) sheets[k])[i] = v;
            }
            return 1;
        });
    }

    long cell(int k, int i, int lane) {
        fault = 0;
        if (k < 0 || k > 3 || lane < 0 || lane > 2) {
            return Long.MIN_VALUE;
        }
        long answer = risk(() -> lane == 0 ? ((byte[]) sheets[k])[i]
                : lane == 1 ? ((short[]) sheets[k])[i] : ((int[]) sheets[k])[i]);
        return fault == 0 ? answer : Long.MIN_VALUE;
    }

    int copy(int k, int i, int other, int j, int n) {
        fault = 0;
        if (k < 0 || k > 3 || other < 0 || other > 3) {
            return -1;
        }
        return (int) risk(() -> {
            System.arraycopy(sheets[k], i, sheets[other], j, n);
            return n;
        });
    }

    int tell(int b) {
        return noBuyer(b) ? -1 : buyers.get(b).tell();
    }

    int nod(int b) {
        return noBuyer(b) ? -1 : buyers.get(b).nod();
    }

    int as(int b, int kind) {
        fault = 0;
        if (noBuyer(b)) {
            return -1;
        }
        if (kind < 0 || kind > 2) {
            return -2;
        }
        Class<?>[] kinds = {Buyer.class, Hatted.class, Nervous.class};
        return (int) risk(() -> kinds[kind].cast(buyers.get(b)) == null ? 0 : 1);
    }

    int trace() {
        return trace;
    }

    int fault() {
        return fault;
    }

    int many(int what) {
        if (what < 0 || what > 3) {
            return -2;
        }
        return new int[] {buyers.size(), rows * wide, law, readings.size()}[what];
    }
}
