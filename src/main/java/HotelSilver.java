import java.util.Arrays;

/** The hotel's silver. The document's promises are named by number above the calls they belong to. */
public final class HotelSilver {
    public static final int UNKNOWN = -1, OUTSIDE = -2, STATE = -3, FULL = -4, NONE = -9;

    private static final int HOUSES = 5;
    private static final int KINDS = 6;
    private static final int CELLS = HOUSES * KINDS;
    private static final int WEIGHINGS = 40;
    private static final int EVENTS = 12;
    private static final int LOTS = 4;
    private static final int MONTHS = 8;
    private static final int MARKS = 8;
    private static final int BAGS = 60;
    private static final int BREAKAGES = 60;
    private static final int SHIFTS = 3;
    private static final int HEAVIEST_PIECE = 2000;
    private static final int HEAVIEST_WEIGHING = 2000000;
    private static final int WIDEST_GIVE = 500;
    private static final int MOST_BOOKED = 999;
    private static final int LAST_DAY = 999;

    private final Kinds kinds;
    private final Stock stock;
    private final Weighings weighings;
    private final Events events;
    private final Carrying carrying;
    private final Plates plates;
    private final Marks marks;
    private final Pairing pairing;
    private final Bags bags;
    private final Breakages breakages;

    /** Promise 1. */
    public HotelSilver() {
        kinds = new Kinds();
        stock = new Stock();
        weighings = new Weighings();
        events = new Events();
        carrying = new Carrying();
        plates = new Plates();
        marks = new Marks();
        pairing = new Pairing();
        bags = new Bags();
        breakages = new Breakages();
    }

    // ---- counts

    /** Promise 2. */
    public int kind(int low, int high) {
        if (!within(low, 1, HEAVIEST_PIECE) || !within(high, low, HEAVIEST_PIECE)) {
            return OUTSIDE;
        }
        return kinds.size >= KINDS ? FULL : kinds.add(low, high);
    }

    /** Promise 3. */
    public int book(int house, int kind, int n) {
        if (!isCell(house, kind)) {
            return UNKNOWN;
        }
        return within(n, 0, MOST_BOOKED) ? stock.setBooked(cell(house, kind), n) : OUTSIDE;
    }

    /** Promise 4. */
    public int weigh(int house, int kind, int weight, int give) {
        if (!isCell(house, kind)) {
            return UNKNOWN;
        }
        if (!isWeight(weight, give)) {
            return OUTSIDE;
        }
        if (weighings.size >= WEIGHINGS) {
            return FULL;
        }
        int fewest = kinds.fewestReaching(kind, weight - give);
        int most = kinds.mostWithin(kind, weight + give);
        return weighings.add(cell(house, kind), fewest, most);
    }

    /** Promise 5. */
    public int drop(int weighing) {
        if (!within(weighing, 0, weighings.size - 1)) {
            return UNKNOWN;
        }
        return weighings.stop(weighing) ? 1 : STATE;
    }

    /** Promise 6. */
    public int sure(int house, int kind, boolean greatest) {
        return isCell(house, kind) ? weighings.edge(cell(house, kind), greatest) : UNKNOWN;
    }

    /** Promise 7. */
    public int quarrel(int house, int kind) {
        return isCell(house, kind) ? weighings.firstAgainst(cell(house, kind)) : UNKNOWN;
    }

    /** Promise 8. */
    public int tray(int one, int other, int weight, int give) {
        int refusal = trayRefusal(one, other, weight, give);
        return refusal != 0 ? refusal : kinds.pairsOn(one, other, weight, give);
    }

    /** Promise 9. */
    public int trayPair(int one, int other, int weight, int give, int i) {
        int refusal = trayRefusal(one, other, weight, give);
        return refusal != 0 ? refusal : kinds.pairAt(one, other, weight, give, i);
    }

    /** Promise 10. */
    public int ledger(int house, int kind, int what, int n) {
        if (!isCell(house, kind)) {
            return UNKNOWN;
        }
        if (!within(what, 0, Stock.PARTS - 1) || !within(n, 0, MOST_BOOKED)) {
            return OUTSIDE;
        }
        return stock.setParted(cell(house, kind), what, n);
    }

    /** Promise 11. */
    public int missing(int house, int kind, boolean most) {
        if (!isCell(house, kind)) {
            return UNKNOWN;
        }
        int gone = missingIn(cell(house, kind), most);
        return gone == NONE ? STATE : gone;
    }

    /** Promise 12. */
    public int worst() {
        int worstHouse = NONE;
        int worstSum = 0;
        for (int house = 0; house < HOUSES; house++) {
            int sum = missingInHouse(house);
            if (sum > worstSum) {
                worstSum = sum;
                worstHouse = house;
            }
        }
        return worstHouse;
    }

    // ---- events

    /** Promise 13. */
    public int farness(int a, int b, int n) {
        if (!isHouse(a) || !isHouse(b)) {
            return UNKNOWN;
        }
        if (!within(n, 0, 99)) {
            return OUTSIDE;
        }
        return a == b ? STATE : carrying.setFar(a, b, n);
    }

    /** Promise 14. */
    public int event(int day, int house, int kind, int need) {
        if (!isCell(house, kind)) {
            return UNKNOWN;
        }
        if (!within(day, 0, LAST_DAY) || !within(need, 1, Events.MOST_NEED)) {
            return OUTSIDE;
        }
        return events.size >= EVENTS ? FULL : events.add(day, house, kind, need);
    }

    /** Promise 15. */
    public int off(int event) {
        if (!events.has(event)) {
            return UNKNOWN;
        }
        return events.stop(event) ? 1 : STATE;
    }

    /** Promise 16. */
    public int carried(int kind) {
        return kinds.has(kind) ? carrying.leastFor(events, stock, kind, NONE) : UNKNOWN;
    }

    /** Promise 17. */
    public int inNeed(int kind) {
        return kinds.has(kind) ? carrying.firstShortDay(events, stock, kind) : UNKNOWN;
    }

    /** Promise 18. */
    public int costs(int event) {
        if (!events.has(event)) {
            return UNKNOWN;
        }
        if (!events.on[event]) {
            return STATE;
        }
        int kind = events.kind[event];
        int with = carrying.leastFor(events, stock, kind, NONE);
        if (with == NONE) {
            return NONE;
        }
        // Below 0 where the EVENT's DAY let pieces be carried by a cheaper way in two goes.
        return with - carrying.leastFor(events, stock, kind, event);
    }

    // ---- plate

    /** Promise 19. */
    public int lot(int lot, int what, int v) {
        if (!isLot(lot)) {
            return UNKNOWN;
        }
        if (!within(what, 0, Plates.WHATS - 1) || !within(v, Plates.LOWEST[what], Plates.HIGHEST[what])) {
            return OUTSIDE;
        }
        return plates.setValue(lot, what, v);
    }

    /** Promise 20. */
    public int crew(int n) {
        return within(n, 0, LOTS) ? plates.setHands(n) : OUTSIDE;
    }

    /** Promise 21. */
    public int plan(int months) {
        return within(months, 1, MONTHS) ? plates.fewestOver(months) : OUTSIDE;
    }

    /** Promise 22. */
    public int planned(int months, int i) {
        if (!within(months, 1, MONTHS) || !within(i, 0, months - 1)) {
            return OUTSIDE;
        }
        return plates.setOfMonth(months, i);
    }

    /** Promise 23. */
    public int month(int set) {
        if (!within(set, 0, Plates.SETS - 1)) {
            return OUTSIDE;
        }
        return Integer.bitCount(set) > plates.hands ? STATE : plates.goBy(set);
    }

    /** Promise 24. */
    public int match(int a, int b, int apart) {
        if (!isLot(a) || !isLot(b)) {
            return UNKNOWN;
        }
        if (!within(apart, 0, 200)) {
            return OUTSIDE;
        }
        return plates.apart(a, b) <= apart ? 1 : 0;
    }

    // ---- marks

    /** Promise 25. */
    public int mark(boolean find, int first, int second, int third, int weight) {
        if (!isSign(first) || !isSign(second) || !isSign(third) || !within(weight, 1, HEAVIEST_PIECE)) {
            return OUTSIDE;
        }
        if ((find ? marks.finds : marks.pieces) >= MARKS) {
            return FULL;
        }
        return marks.add(find, first, second, third, weight);
    }

    /** Promise 26. */
    public int clear() {
        return marks.takeAway();
    }

    /** Promise 27. */
    public int cost(int piece, int find) {
        if (!isPiece(piece) || !within(find, 0, marks.finds - 1)) {
            return UNKNOWN;
        }
        return marks.price(piece, find);
    }

    /** Promise 28. */
    public int join(boolean cost) {
        return cost ? pairing.bestPrice(marks) : pairing.mostPairs(marks);
    }

    /** Promise 29. */
    public int joined(int piece) {
        return isPiece(piece) ? pairing.findOf(marks, piece) : UNKNOWN;
    }

    /** Promise 30. */
    public int certain(int piece) {
        if (!isPiece(piece)) {
            return UNKNOWN;
        }
        return pairing.choicesOf(marks, piece) == 1 ? 1 : 0;
    }

    // ---- bags, breakages

    /** Promise 31. */
    public int doubted(int n, int m, int x, int t) {
        if (!isDraw(n, m, x) || !within(t, x, n - m + x)) {
            return OUTSIDE;
        }
        return bags.isDoubted(n, m, x, t) ? 1 : 0;
    }

    /** Promise 32. */
    public int bound(int n, int m, int x, boolean greatest) {
        if (!isDraw(n, m, x)) {
            return OUTSIDE;
        }
        return greatest ? bags.greatestKept(n, m, x) : bags.leastKept(n, m, x);
    }

    /** Promise 33. */
    public int broke(int night, int shift, int n) {
        if (!within(night, 0, LAST_DAY) || !isShift(shift) || !within(n, 1, 99)) {
            return OUTSIDE;
        }
        return breakages.size >= BREAKAGES ? FULL : breakages.add(night, shift, n);
    }

    /** Promise 34. */
    public int told(int shift, int from, int to) {
        if (!isShift(shift) || !within(from, 0, LAST_DAY) || !within(to, from, LAST_DAY)) {
            return OUTSIDE;
        }
        return breakages.tell(shift, from, to);
    }

    /** Promise 35. */
    public int count(int what) {
        switch (what) {
            case 0:
                return kinds.size;
            case 1:
                return weighings.counting();
            case 2:
                return events.counting();
            case 3:
                return marks.pieces;
            case 4:
                return marks.finds;
            case 5:
                return breakages.size;
            case 6:
                return stock.bookedInAll();
            default:
                return OUTSIDE;
        }
    }

    // ---- what several calls ask

    private static boolean within(int v, int least, int most) {
        return v >= least && v <= most;
    }

    private static boolean isHouse(int house) {
        return within(house, 0, HOUSES - 1);
    }

    private static boolean isLot(int lot) {
        return within(lot, 0, LOTS - 1);
    }

    private static boolean isShift(int shift) {
        return within(shift, 0, SHIFTS - 1);
    }

    private static boolean isSign(int sign) {
        return sign == NONE || within(sign, 0, 9);
    }

    private static boolean isWeight(int weight, int give) {
        return within(weight, 0, HEAVIEST_WEIGHING) && within(give, 0, WIDEST_GIVE);
    }

    private static boolean isDraw(int n, int m, int x) {
        return within(n, 1, BAGS) && within(m, 1, n) && within(x, 0, m);
    }

    private static int cell(int house, int kind) {
        return house * KINDS + kind;
    }

    private boolean isCell(int house, int kind) {
        return isHouse(house) && kinds.has(kind);
    }

    private boolean isPiece(int piece) {
        return within(piece, 0, marks.pieces - 1);
    }

    /** 0 where nothing is refused. */
    private int trayRefusal(int one, int other, int weight, int give) {
        if (!kinds.has(one) || !kinds.has(other)) {
            return UNKNOWN;
        }
        if (!isWeight(weight, give)) {
            return OUTSIDE;
        }
        return one == other ? STATE : 0;
    }

    /** NONE where nothing is SURE. */
    private int missingIn(int cell, boolean most) {
        // The fewer are surely there, the more are missing.
        int there = weighings.edge(cell, !most);
        return there == NONE ? NONE : Math.max(0, stock.lost(cell) - there);
    }

    private int missingInHouse(int house) {
        int sum = 0;
        for (int kind = 0; kind < kinds.size; kind++) {
            sum += Math.max(0, missingIn(cell(house, kind), false));
        }
        return sum;
    }

    /** What a piece of each KIND weighs, and which numbers and pairs a weight lets by that. */
    private static final class Kinds {
        private static final int MOST_ON_TRAY = 200;

        private final int[] low = new int[KINDS];
        private final int[] high = new int[KINDS];
        private int size = 0;

        private boolean has(int kind) {
            return within(kind, 0, size - 1);
        }

        private int add(int lowest, int highest) {
            low[size] = lowest;
            high[size] = highest;
            size++;
            return size - 1;
        }

        /** The greatest number whose lightest pieces are not above a weight; -1 where even 0 is. */
        private int mostWithin(int kind, int weight) {
            int each = low[kind];
            return weight < 0 || each < 1 ? -1 : weight / each;
        }

        /** The least number whose heaviest pieces are not below a weight. */
        private int fewestReaching(int kind, int weight) {
            int each = high[kind];
            return weight <= 0 || each < 1 ? 0 : (weight + each - 1) / each;
        }

        private int fewestBeside(int one, int a, int other, int atLeast) {
            return fewestReaching(other, atLeast - a * high[one]);
        }

        private int mostBeside(int one, int a, int other, int atMost) {
            return Math.min(MOST_ON_TRAY, mostWithin(other, atMost - a * low[one]));
        }

        private int pairsOn(int one, int other, int weight, int give) {
            int pairs = 0;
            for (int a = 0; a <= MOST_ON_TRAY; a++) {
                int fewest = fewestBeside(one, a, other, weight - give);
                int most = mostBeside(one, a, other, weight + give);
                pairs += Math.max(0, most - fewest + 1);
            }
            return pairs;
        }

        private int pairAt(int one, int other, int weight, int give, int i) {
            if (i < 0) {
                return NONE;
            }
            int ahead = i;
            for (int a = 0; a <= MOST_ON_TRAY; a++) {
                int fewest = fewestBeside(one, a, other, weight - give);
                int most = mostBeside(one, a, other, weight + give);
                int pairs = Math.max(0, most - fewest + 1);
                if (ahead < pairs) {
                    return 1000 * a + fewest + ahead;
                }
                ahead -= pairs;
            }
            return NONE;
        }
    }

    /** THE BOOK and the LEDGER. */
    private static final class Stock {
        private static final int PARTS = 3;

        private final int[] booked = new int[CELLS];
        private final int[] parted = new int[CELLS * PARTS];

        private int setBooked(int cell, int n) {
            int was = booked[cell];
            booked[cell] = n;
            return was;
        }

        private int setParted(int cell, int what, int n) {
            int at = cell * PARTS + what;
            int was = parted[at];
            parted[at] = n;
            return was;
        }

        private int lost(int cell) {
            int left = booked[cell];
            for (int what = 0; what < PARTS; what++) {
                left -= parted[cell * PARTS + what];
            }
            return left;
        }

        private int bookedOf(int kind) {
            int sum = 0;
            for (int house = 0; house < HOUSES; house++) {
                sum += booked[cell(house, kind)];
            }
            return sum;
        }

        private int bookedInAll() {
            int sum = 0;
            for (int cell = 0; cell < CELLS; cell++) {
                sum += booked[cell];
            }
            return sum;
        }
    }

    /** Each WEIGHING as the numbers it lets: a KIND's weights never change, so these stay right. */
    private static final class Weighings {
        private static final int MOST_SURE = 2000;

        private final int[] cellOf = new int[WEIGHINGS];
        private final int[] fewest = new int[WEIGHINGS];
        private final int[] most = new int[WEIGHINGS];
        private final boolean[] counts = new boolean[WEIGHINGS];
        private int size = 0;

        private int add(int cell, int fewestLet, int mostLet) {
            cellOf[size] = cell;
            fewest[size] = fewestLet;
            most[size] = mostLet;
            counts[size] = true;
            size++;
            return size - 1;
        }

        private boolean stop(int weighing) {
            boolean counted = counts[weighing];
            counts[weighing] = false;
            return counted;
        }

        private boolean speaksOf(int weighing, int cell) {
            return counts[weighing] && cellOf[weighing] == cell;
        }

        private int edge(int cell, boolean greatest) {
            int least = 0;
            int top = MOST_SURE;
            for (int w = 0; w < size; w++) {
                if (speaksOf(w, cell)) {
                    least = Math.max(least, fewest[w]);
                    top = Math.min(top, most[w]);
                }
            }
            if (least > top) {
                return NONE;
            }
            return greatest ? top : least;
        }

        private int firstAgainst(int cell) {
            int least = 0;
            int top = MOST_SURE;
            for (int w = 0; w < size; w++) {
                if (speaksOf(w, cell)) {
                    least = Math.max(least, fewest[w]);
                    top = Math.min(top, most[w]);
                    if (least > top) {
                        return w;
                    }
                }
            }
            return NONE;
        }

        private int counting() {
            int sum = 0;
            for (int w = 0; w < size; w++) {
                sum += counts[w] ? 1 : 0;
            }
            return sum;
        }
    }

    private static final class Events {
        private static final int MOST_NEED = 500;

        private final int[] day = new int[EVENTS];
        private final int[] house = new int[EVENTS];
        private final int[] kind = new int[EVENTS];
        private final int[] need = new int[EVENTS];
        private final boolean[] on = new boolean[EVENTS];
        private int size = 0;

        private boolean has(int number) {
            return within(number, 0, size - 1);
        }

        private int add(int itsDay, int itsHouse, int itsKind, int itsNeed) {
            day[size] = itsDay;
            house[size] = itsHouse;
            kind[size] = itsKind;
            need[size] = itsNeed;
            on[size] = true;
            size++;
            return size - 1;
        }

        private boolean stop(int number) {
            boolean was = on[number];
            on[number] = false;
            return was;
        }

        private int counting() {
            int sum = 0;
            for (int e = 0; e < size; e++) {
                sum += on[e] ? 1 : 0;
            }
            return sum;
        }
    }

    /**
     * Each piece that an EVENT needs comes either from where THE BOOK has it or from an EVENT of an earlier DAY,
     * which hands on what it used. What no EVENT needs lies still. So THE LEAST CARRIED is the cheapest way to
     * supply all EVENTS from HOUSES and EVENTS, sent piece by piece along cheapest ways, earlier sendings undone
     * where that is cheaper.
     */
    private static final class Carrying {
        private static final int SOURCES = HOUSES + EVENTS;
        private static final int SQUARE = HOUSES * HOUSES;
        /** More goes than this between five HOUSES would come through one of them twice. */
        private static final int MOST_GOES = HOUSES - 1;
        private static final int NO_WAY = 1000000;
        /** Each sending is of one piece at least. */
        private static final int MOST_SENDINGS = EVENTS * Events.MOST_NEED;

        private final int[] far = new int[SQUARE];
        private final int[] farInGoes = new int[SQUARE * MOST_GOES];
        private final int[] served = new int[EVENTS];
        private final int[] rank = new int[EVENTS];
        private int size = 0;
        private final int[] price = new int[SOURCES * EVENTS];
        private final int[] sent = new int[SOURCES * EVENTS];
        private final int[] spare = new int[SOURCES];
        private final int[] unmet = new int[EVENTS];
        private final int[] wayToSource = new int[SOURCES];
        private final int[] wayToEvent = new int[EVENTS];
        private final int[] aheadOfSource = new int[SOURCES];
        private final int[] aheadOfEvent = new int[EVENTS];

        private Carrying() {
            for (int i = 0; i < SQUARE; i++) {
                far[i] = i / HOUSES == i % HOUSES ? 0 : 1;
            }
        }

        private int setFar(int a, int b, int n) {
            int was = far[a * HOUSES + b];
            far[a * HOUSES + b] = n;
            far[b * HOUSES + a] = n;
            return was;
        }

        private int firstShortDay(Events events, Stock stock, int kind) {
            gather(events, kind, NONE);
            return shortDay(events, stock.bookedOf(kind));
        }

        private int leastFor(Events events, Stock stock, int kind, int without) {
            gather(events, kind, without);
            if (shortDay(events, stock.bookedOf(kind)) != NONE) {
                return NONE;
            }
            layWays();
            setOut(events, stock, kind);
            return sendAll();
        }

        /** The EVENTS that count, by DAY. */
        private void gather(Events events, int kind, int without) {
            size = 0;
            for (int e = 0; e < events.size; e++) {
                if (events.on[e] && events.kind[e] == kind && e != without) {
                    insert(events, e);
                }
            }
            for (int j = 0; j < size; j++) {
                boolean sameDay = j > 0 && events.day[served[j]] == events.day[served[j - 1]];
                rank[j] = j == 0 ? 0 : rank[j - 1] + (sameDay ? 0 : 1);
            }
        }

        private void insert(Events events, int e) {
            int at = size;
            for (int j = size; j > 0 && events.day[served[j - 1]] > events.day[e]; j--) {
                served[j] = served[j - 1];
                at = j - 1;
            }
            served[at] = e;
            size++;
        }

        private int shortDay(Events events, int pieces) {
            int needed = 0;
            for (int j = 0; j < size; j++) {
                boolean sameDay = j > 0 && rank[j] == rank[j - 1];
                needed = (sameDay ? needed : 0) + events.need[served[j]];
                if (needed > pieces) {
                    return events.day[served[j]];
                }
            }
            return NONE;
        }

        /** Ahead of several DAYS a piece goes several times, and FARNESS may be less that way. */
        private void layWays() {
            System.arraycopy(far, 0, farInGoes, 0, SQUARE);
            for (int goes = 2; goes <= MOST_GOES; goes++) {
                for (int i = 0; i < SQUARE; i++) {
                    farInGoes[(goes - 1) * SQUARE + i] = leastBetween(goes, i / HOUSES, i % HOUSES);
                }
            }
        }

        private int leastBetween(int goes, int a, int b) {
            int least = NO_WAY;
            int before = (goes - 2) * SQUARE;
            for (int mid = 0; mid < HOUSES; mid++) {
                least = Math.min(least, farInGoes[before + a * HOUSES + mid] + far[mid * HOUSES + b]);
            }
            return least;
        }

        private int way(int goes, int a, int b) {
            if (goes < 1) {
                return NO_WAY;
            }
            return farInGoes[(Math.min(goes, MOST_GOES) - 1) * SQUARE + a * HOUSES + b];
        }

        private void setOut(Events events, Stock stock, int kind) {
            Arrays.fill(sent, 0);
            for (int house = 0; house < HOUSES; house++) {
                spare[house] = stock.booked[cell(house, kind)];
            }
            for (int j = 0; j < size; j++) {
                int need = events.need[served[j]];
                spare[HOUSES + j] = need;
                unmet[j] = need;
                setPrices(events, j);
            }
        }

        private void setPrices(Events events, int j) {
            int to = events.house[served[j]];
            for (int house = 0; house < HOUSES; house++) {
                price[house * EVENTS + j] = way(rank[j] + 1, house, to);
            }
            for (int i = 0; i < size; i++) {
                int from = events.house[served[i]];
                price[(HOUSES + i) * EVENTS + j] = way(rank[j] - rank[i], from, to);
            }
        }

        private int sendAll() {
            int total = 0;
            int j = 0;
            for (int sending = 0; sending <= MOST_SENDINGS + size; sending++) {
                if (j >= size) {
                    return total;
                }
                if (unmet[j] == 0) {
                    j++;
                    continue;
                }
                seekWays();
                if (wayToEvent[j] >= NO_WAY) {
                    return NONE;
                }
                total += wayToEvent[j] * send(j);
            }
            return NONE;
        }

        /** The cheapest ways from whatever has pieces to spare, until none gets cheaper. */
        private void seekWays() {
            for (int source = 0; source < HOUSES + size; source++) {
                wayToSource[source] = spare[source] > 0 ? 0 : NO_WAY;
                aheadOfSource[source] = NONE;
            }
            Arrays.fill(wayToEvent, NO_WAY);
            Arrays.fill(aheadOfEvent, NONE);
            boolean cheaper = true;
            for (int pass = 0; pass < SOURCES + EVENTS && cheaper; pass++) {
                reachEvents();
                cheaper = reachSources();
            }
        }

        private void reachEvents() {
            for (int source = 0; source < HOUSES + size; source++) {
                if (wayToSource[source] >= NO_WAY) {
                    continue;
                }
                for (int j = 0; j < size; j++) {
                    int each = price[source * EVENTS + j];
                    if (each < NO_WAY && wayToSource[source] + each < wayToEvent[j]) {
                        wayToEvent[j] = wayToSource[source] + each;
                        aheadOfEvent[j] = source;
                    }
                }
            }
        }

        private boolean reachSources() {
            boolean cheaper = false;
            for (int j = 0; j < size; j++) {
                if (wayToEvent[j] >= NO_WAY) {
                    continue;
                }
                for (int source = 0; source < HOUSES + size; source++) {
                    int at = source * EVENTS + j;
                    if (sent[at] > 0 && wayToEvent[j] - price[at] < wayToSource[source]) {
                        wayToSource[source] = wayToEvent[j] - price[at];
                        aheadOfSource[source] = j;
                        cheaper = true;
                    }
                }
            }
            return cheaper;
        }

        private int send(int to) {
            int pieces = mostAlong(to);
            int j = to;
            for (int leg = 0; leg < SOURCES; leg++) {
                int source = aheadOfEvent[j];
                if (source == NONE) {
                    break;
                }
                sent[source * EVENTS + j] += pieces;
                int undone = aheadOfSource[source];
                if (undone == NONE) {
                    spare[source] -= pieces;
                    break;
                }
                sent[source * EVENTS + undone] -= pieces;
                j = undone;
            }
            unmet[to] -= pieces;
            return pieces;
        }

        private int mostAlong(int to) {
            int most = unmet[to];
            int j = to;
            for (int leg = 0; leg < SOURCES; leg++) {
                int source = aheadOfEvent[j];
                if (source == NONE) {
                    return 0;
                }
                int undone = aheadOfSource[source];
                if (undone == NONE) {
                    return Math.min(most, spare[source]);
                }
                most = Math.min(most, sent[source * EVENTS + undone]);
                j = undone;
            }
            return 0;
        }
    }

    /**
     * LOTS. A PLAN only asks how many months each LOT still lasts without being replated (four bits each, never
     * more than the months to come), so what is found for such a state is kept until a LOT's FULL, WEAR or LEAST
     * or the CREW changes.
     */
    private static final class Plates {
        private static final int PLATE = 0;
        private static final int WHOLE = 1;
        private static final int WEAR = 2;
        private static final int LEAST = 3;
        private static final int WHATS = 4;
        private static final int SETS = 1 << LOTS;
        private static final int NO_PLAN = 62;
        private static final int[] LOWEST = {0, 1, 0, 0};
        private static final int[] HIGHEST = {200, 200, 99, 100};
        private static final int[] AT_FIRST = {100, 100, 10, 20};
        /** Where the states of so many months to come begin: those of m months are (m + 1) to the fourth. */
        private static final int[] BEGIN = {0, 0, 16, 97, 353, 978, 2274, 4675};
        private static final int STATES = 8771;
        private static final int PER_WORD = 10;

        private final int[] values = new int[LOTS * WHATS];
        private final int[] renewed = new int[LOTS];
        private final long[] found = new long[STATES / PER_WORD + 1];
        private int hands = 1;

        private Plates() {
            for (int i = 0; i < LOTS * WHATS; i++) {
                values[i] = AT_FIRST[i % WHATS];
            }
        }

        private int setValue(int lot, int what, int v) {
            int at = lot * WHATS + what;
            int was = values[at];
            values[at] = v;
            if (what != PLATE && v != was) {
                Arrays.fill(found, 0L);
            }
            return was;
        }

        private int setHands(int n) {
            int was = hands;
            hands = n;
            if (n != was) {
                Arrays.fill(found, 0L);
            }
            return was;
        }

        private int apart(int a, int b) {
            return Math.abs(values[a * WHATS + PLATE] - values[b * WHATS + PLATE]);
        }

        private int goBy(int set) {
            int below = 0;
            for (int lot = 0; lot < LOTS; lot++) {
                int row = lot * WHATS;
                int start = values[row + ((set >> lot & 1) == 1 ? WHOLE : PLATE)];
                values[row + PLATE] = Math.max(0, start - values[row + WEAR]);
                below += values[row + PLATE] < values[row + LEAST] ? 1 : 0;
            }
            return below;
        }

        private int fewestOver(int months) {
            int fewest = fewestFrom(months, stateNow(months));
            return fewest >= NO_PLAN ? NONE : fewest;
        }

        private int setOfMonth(int months, int i) {
            int state = stateNow(months);
            int set = NONE;
            for (int gone = 0; gone <= i; gone++) {
                set = leastSet(months - gone, state);
                if (set == NONE) {
                    return NONE;
                }
                state = after(months - gone, state, set);
            }
            return set;
        }

        /** How many months a LOT lasts that begins with so much PLATE, as far as a PLAN can ask. */
        private int lasts(int lot, int plate) {
            int wear = values[lot * WHATS + WEAR];
            int least = values[lot * WHATS + LEAST];
            if (least == 0) {
                return MONTHS;
            }
            if (plate < least) {
                return 0;
            }
            return wear < 1 ? MONTHS : Math.min(MONTHS, (plate - least) / wear);
        }

        private int stateNow(int months) {
            int state = 0;
            for (int lot = 0; lot < LOTS; lot++) {
                renewed[lot] = lasts(lot, values[lot * WHATS + WHOLE]);
                state |= Math.min(months, lasts(lot, values[lot * WHATS + PLATE])) << 4 * lot;
            }
            return state;
        }

        private int fewestFrom(int months, int state) {
            if (months < 1) {
                return 0;
            }
            int slot = months < BEGIN.length ? slotOf(months, state) : STATES;
            int known = slot < STATES ? recall(slot) : 0;
            if (known > 0) {
                return known - 1;
            }
            int fewest = NO_PLAN;
            int must = lotsThatMust(state);
            int may = lotsThatMay(months, state);
            for (int set = 0; set < SETS; set++) {
                if (allowed(set, must, may)) {
                    int then = fewestFrom(months - 1, after(months, state, set));
                    fewest = Math.min(fewest, Integer.bitCount(set) + then);
                }
            }
            if (slot < STATES) {
                keep(slot, fewest + 1);
            }
            return fewest;
        }

        private int leastSet(int months, int state) {
            int fewest = fewestFrom(months, state);
            if (fewest >= NO_PLAN) {
                return NONE;
            }
            int must = lotsThatMust(state);
            int may = lotsThatMay(months, state);
            for (int set = 0; set < SETS; set++) {
                if (allowed(set, must, may)
                        && Integer.bitCount(set) + fewestFrom(months - 1, after(months, state, set)) == fewest) {
                    return set;
                }
            }
            return NONE;
        }

        private boolean allowed(int set, int must, int may) {
            return (set & must) == must && (set & may) == set && Integer.bitCount(set) <= hands;
        }

        private static int lastsStill(int state, int lot) {
            return state >> 4 * lot & 15;
        }

        private static int lotsThatMust(int state) {
            int must = 0;
            for (int lot = 0; lot < LOTS; lot++) {
                must |= (lastsStill(state, lot) == 0 ? 1 : 0) << lot;
            }
            return must;
        }

        /** Replating that doesn't make a LOT last longer, as far as the PLAN goes, is in no PLAN of THE FEWEST. */
        private int lotsThatMay(int months, int state) {
            int may = 0;
            for (int lot = 0; lot < LOTS; lot++) {
                boolean helps = lastsStill(state, lot) < Math.min(months, renewed[lot]);
                may |= (helps ? 1 : 0) << lot;
            }
            return may;
        }

        private int after(int months, int state, int set) {
            int next = 0;
            for (int lot = 0; lot < LOTS; lot++) {
                int lasting = (set >> lot & 1) == 1 ? renewed[lot] : lastsStill(state, lot);
                next |= Math.max(0, Math.min(months, lasting) - 1) << 4 * lot;
            }
            return next;
        }

        private static int slotOf(int months, int state) {
            int slot = 0;
            for (int lot = 0; lot < LOTS; lot++) {
                slot = slot * (months + 1) + lastsStill(state, lot);
            }
            return BEGIN[months] + slot;
        }

        private int recall(int slot) {
            return (int) (found[slot / PER_WORD] >> 6 * (slot % PER_WORD) & 63L);
        }

        private void keep(int slot, int what) {
            found[slot / PER_WORD] |= (long) what << 6 * (slot % PER_WORD);
        }
    }

    /** PIECES and FINDS; the rows of FINDS stand behind those of all PIECES. */
    private static final class Marks {
        private static final int SIGNS = 3;
        private static final int FARTHEST = 20;
        private static final int WORN = 10;

        private final int[] sign = new int[2 * MARKS * SIGNS];
        private final int[] weight = new int[2 * MARKS];
        private int pieces = 0;
        private int finds = 0;

        private int add(boolean find, int first, int second, int third, int itsWeight) {
            int number = find ? finds++ : pieces++;
            int row = find ? MARKS + number : number;
            sign[row * SIGNS] = first;
            sign[row * SIGNS + 1] = second;
            sign[row * SIGNS + 2] = third;
            weight[row] = itsWeight;
            return number;
        }

        private int takeAway() {
            int were = pieces + finds;
            pieces = 0;
            finds = 0;
            return were;
        }

        private int price(int piece, int find) {
            int apart = Math.abs(weight[piece] - weight[MARKS + find]);
            if (apart > FARTHEST) {
                return NONE;
            }
            int sum = apart;
            for (int place = 0; place < SIGNS; place++) {
                int one = sign[piece * SIGNS + place];
                int other = sign[(MARKS + find) * SIGNS + place];
                if (one == NONE || other == NONE) {
                    sum += WORN;
                } else if (one != other) {
                    return NONE;
                }
            }
            return sum;
        }
    }

    /**
     * THE JOIN as the greatest of one number for each way to pair: first its pairs and what they cost, then, in
     * places of nine from the first PIECE on, which FIND each PIECE has. So the greatest number also tells the
     * pairs themselves.
     */
    private static final class Pairing {
        /** Above what eight pairs can cost. */
        private static final int PAIR = 1000;
        private static final int DIGIT = MARKS + 1;
        private static final int[] PLACE = {4782969, 531441, 59049, 6561, 729, 81, 9, 1};
        private static final long WORTH = 43046721L;

        /** By the set of FINDS that may be used. */
        private final long[] best = new long[1 << MARKS];
        private final long[] gain = new long[MARKS];

        private int mostPairs(Marks marks) {
            return pairsIn(bestOf(marks));
        }

        private int bestPrice(Marks marks) {
            long all = bestOf(marks);
            return PAIR * pairsIn(all) - (int) (all / WORTH);
        }

        private int findOf(Marks marks, int piece) {
            int digit = (int) (bestOf(marks) % WORTH) / Math.max(1, PLACE[piece]) % DIGIT;
            return digit == 0 ? NONE : MARKS - digit;
        }

        /** How many FINDS (or none) a PIECE has in one or another JOIN that is as good. */
        private int choicesOf(Marks marks, int piece) {
            pairAllBut(marks, piece);
            int all = (1 << marks.finds) - 1;
            long top = best[all] / WORTH;
            int choices = 1;
            for (int find = 0; find < marks.finds; find++) {
                int price = marks.price(piece, find);
                long with = price == NONE ? -1 : best[all ^ 1 << find] / WORTH + PAIR - price;
                if (with > top) {
                    top = with;
                    choices = 1;
                } else if (with == top) {
                    choices++;
                }
            }
            return choices;
        }

        private static int pairsIn(long joinNumber) {
            return (int) ((joinNumber / WORTH + PAIR - 1) / PAIR);
        }

        private long bestOf(Marks marks) {
            pairAllBut(marks, NONE);
            return best[(1 << marks.finds) - 1];
        }

        private void pairAllBut(Marks marks, int left) {
            Arrays.fill(best, 0L);
            for (int piece = 0; piece < marks.pieces; piece++) {
                if (piece != left) {
                    pairOneMore(marks, piece);
                }
            }
        }

        /** From the greatest set down, so that lesser sets still tell of the PIECES ahead alone. */
        private void pairOneMore(Marks marks, int piece) {
            for (int find = 0; find < marks.finds; find++) {
                int price = marks.price(piece, find);
                gain[find] = price == NONE ? 0L : (PAIR - price) * WORTH + (long) (MARKS - find) * PLACE[piece];
            }
            for (int set = (1 << marks.finds) - 1; set > 0; set--) {
                for (int find = 0; find < marks.finds; find++) {
                    if ((set >> find & 1) == 1 && gain[find] > 0L) {
                        best[set] = Math.max(best[set], best[set ^ 1 << find] + gain[find]);
                    }
                }
            }
        }
    }

    /** No number here is above twenty times choose 30 of 60, which a long holds. */
    private static final class Bags {
        private static final int ONE_IN = 20;

        private final long[] fromHolding = new long[BAGS + 1];
        private final long[] fromOthers = new long[BAGS + 1];

        private boolean isDoubted(int n, int m, int x, int t) {
            choose(fromHolding, t);
            choose(fromOthers, n - t);
            long all = 0L;
            long fewer = 0L;
            long more = 0L;
            for (int j = 0; j <= m; j++) {
                long ways = fromHolding[j] * fromOthers[m - j];
                all += ways;
                fewer += j <= x ? ways : 0L;
                more += j >= x ? ways : 0L;
            }
            return ONE_IN * fewer < all || ONE_IN * more < all;
        }

        private int leastKept(int n, int m, int x) {
            for (int t = x; t <= n - m + x; t++) {
                if (!isDoubted(n, m, x, t)) {
                    return t;
                }
            }
            return NONE;
        }

        private int greatestKept(int n, int m, int x) {
            for (int t = n - m + x; t >= x; t--) {
                if (!isDoubted(n, m, x, t)) {
                    return t;
                }
            }
            return NONE;
        }

        private static void choose(long[] row, int of) {
            row[0] = 1L;
            for (int k = 1; k <= BAGS; k++) {
                row[k] = k > of ? 0L : row[k - 1] * (of - k + 1) / k;
            }
        }
    }

    private static final class Breakages {
        private static final int FEWEST_NIGHTS = 3;

        private final int[] night = new int[BREAKAGES];
        private final int[] shift = new int[BREAKAGES];
        private final int[] pieces = new int[BREAKAGES];
        private int size = 0;

        private int add(int itsNight, int itsShift, int n) {
            night[size] = itsNight;
            shift[size] = itsShift;
            pieces[size] = n;
            size++;
            return size;
        }

        private int tell(int ofShift, int from, int to) {
            int sum = 0;
            int nights = 0;
            for (int b = 0; b < size; b++) {
                if (shift[b] == ofShift && within(night[b], from, to)) {
                    sum += pieces[b];
                    nights += isFirstOfNight(b) ? 1 : 0;
                }
            }
            return nights >= FEWEST_NIGHTS ? sum : NONE;
        }

        private boolean isFirstOfNight(int b) {
            for (int earlier = 0; earlier < b; earlier++) {
                if (shift[earlier] == shift[b] && night[earlier] == night[b]) {
                    return false;
                }
            }
            return true;
        }
    }
}
