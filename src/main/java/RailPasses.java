/**
 * Passes for a land of rails: laws read from texts, rides judged one by one, the cheapest pass for
 * told wishes, and the price of a pass parted to railways. Words in capitals are the document's.
 */
public final class RailPasses {
    /** A number is none, or none that may be. */
    public static final int NUMBER = -1;
    /** There are as many as may be. */
    public static final int FULL = -2;
    /** There is none. */
    public static final int NONE = -3;
    /** It can't be so now. */
    public static final int STATE = -4;

    private static final int STATIONS = 10;
    private static final int RAILWAYS = 5;
    private static final int MOST_LINES = 14;
    private static final int MOST_TRAINS = 16;
    private static final int LAWS = 3;
    private static final int MOST_PASSES = 8;
    private static final int MOST_RIDES = 40;
    private static final int MOST_WISHES = 10;
    private static final int MOST_ROWS = 200;
    private static final int MOST_SCANS = 40;
    private static final int MOST_BYTES = 300;
    private static final int LAST_DAY = 120;
    private static final int MINUTES_A_DAY = 1440;
    private static final int MINUTES_AN_HOUR = 60;

    private static final int MOST_MILES = 300;
    private static final int MOST_TAKES = 900;
    private static final int MOST_FARE = 500;
    private static final int MOST_QUOTA = 9;
    private static final int QUOTA_STEP = 1000;
    private static final int MOST_DAYS_ON = 20;
    private static final int BYTES_A_FEED = 8;
    private static final int DOUBT_MILES_A_MINUTE = 3;

    // LINES: columns.
    private static final int LINE_A = 0;
    private static final int LINE_B = 1;
    private static final int LINE_RAILWAY = 2;
    private static final int LINE_MILES = 3;
    private static final int LINE_BOAT = 4;
    private static final int LINE_WIDTH = 5;

    // TRAINS: columns, numbered as of() asks for them.
    private static final int TRAIN_LINE = 0;
    private static final int TRAIN_FROM = 1;
    private static final int TRAIN_TO = 2;
    private static final int TRAIN_DEPARTS = 3;
    private static final int TRAIN_TAKES = 4;
    private static final int TRAIN_FAST = 5;
    private static final int TRAIN_FARE = 6;
    private static final int TRAIN_QUOTA = 7;
    private static final int TRAIN_OVERNIGHT = 8;
    private static final int TRAIN_WIDTH = 9;

    // The terms of a LAW: columns, numbered as law() asks for them. A PASS has them as its first
    // columns too, so that a LAW and a PASS are judged by the same code.
    private static final int TERM_DAYS = 0;
    private static final int TERM_WITHIN = 1;
    private static final int TERM_PRICE = 2;
    private static final int TERM_RAILWAYS = 3;
    private static final int TERM_OUT = 4;
    private static final int TERM_NIGHT = 5;
    private static final int TERM_FAST = 6;
    private static final int TERM_BOAT = 7;
    private static final int TERM_CHILD = 8;
    private static final int TERM_REFUND = 9;
    private static final int TERM_LOST = 10;
    private static final int TERMS = 11;

    private static final int LAW_WAS_READ = TERMS;
    private static final int LAW_WIDTH = TERMS + 1;

    // PASSES: the columns behind the terms.
    private static final int PASS_COSTS = TERMS;
    private static final int PASS_LAW = TERMS + 1;
    private static final int PASS_START = TERMS + 2;
    private static final int PASS_IS_LOST = TERMS + 3;
    private static final int PASS_WIDTH = TERMS + 4;

    // RIDES: columns, numbered as rideOf() asks for them.
    private static final int RIDE_PASS = 0;
    private static final int RIDE_TRAIN = 1;
    private static final int RIDE_DAY = 2;
    private static final int RIDE_COUNTED = 3;
    private static final int RIDE_PAYS = 4;
    private static final int RIDE_WIDTH = 5;

    // WISHES: columns.
    private static final int WISH_TRAIN = 0;
    private static final int WISH_DAY = 1;
    private static final int WISH_WIDTH = 2;

    // ROWS: columns, numbered as row() asks for them.
    private static final int ROW_LAW = 0;
    private static final int ROW_START = 1;
    private static final int ROW_LEAST = 2;
    private static final int ROW_WIDTH = 3;

    // SCANS: columns.
    private static final int SCAN_PASS = 0;
    private static final int SCAN_DAY = 1;
    private static final int SCAN_MINUTE = 2;
    private static final int SCAN_STATION = 3;
    private static final int SCAN_KNOWN = 4;
    private static final int SCAN_WIDTH = 5;

    private final Book now = new Book();
    private final Book kept = new Book();
    private boolean isKept;
    private final LawText text = new LawText();
    private final Ways ways = new Ways();
    private final Plan plan = new Plan();
    private final Proof proof = new Proof();
    private final Ledger ledger = new Ledger();

    public RailPasses() {
    }

    // ---- the land

    public int line(int a, int b, int railway, int miles, boolean boat) {
        if (!isStation(a) || !isStation(b) || a == b || !isRailway(railway) || !isWithin(miles, 1, MOST_MILES)) {
            return NUMBER;
        }
        if (now.lines.isFull()) {
            return FULL;
        }
        int made = now.lines.append();
        now.lines.set(made, LINE_A, a);
        now.lines.set(made, LINE_B, b);
        now.lines.set(made, LINE_RAILWAY, railway);
        now.lines.set(made, LINE_MILES, miles);
        now.lines.set(made, LINE_BOAT, bit(boat));
        ways.reckon(now.lines);
        return made;
    }

    public int train(int line, boolean forth, int departs, int takes, boolean fast, int fare) {
        if (!now.lines.has(line) || !isMinute(departs) || !isWithin(takes, 1, MOST_TAKES) || !isFareWithQuota(fare)) {
            return NUMBER;
        }
        if (now.trains.isFull()) {
            return FULL;
        }
        int made = now.trains.append();
        now.trains.set(made, TRAIN_LINE, line);
        now.trains.set(made, TRAIN_FROM, now.lines.get(line, forth ? LINE_A : LINE_B));
        now.trains.set(made, TRAIN_TO, now.lines.get(line, forth ? LINE_B : LINE_A));
        now.trains.set(made, TRAIN_DEPARTS, departs);
        now.trains.set(made, TRAIN_TAKES, takes);
        now.trains.set(made, TRAIN_FAST, bit(fast));
        now.trains.set(made, TRAIN_FARE, fare % QUOTA_STEP);
        now.trains.set(made, TRAIN_QUOTA, fare / QUOTA_STEP);
        now.trains.set(made, TRAIN_OVERNIGHT, bit(departs + takes >= MINUTES_A_DAY));
        return made;
    }

    public int of(int train, int what) {
        if (!now.trains.has(train) || !isWithin(what, 0, TRAIN_WIDTH - 1)) {
            return NUMBER;
        }
        return now.trains.get(train, what);
    }

    public int days(int n) {
        if (!isWithin(n, 1, MOST_DAYS_ON)) {
            return NUMBER;
        }
        if (now.today + n > LAST_DAY) {
            return STATE;
        }
        now.today += n;
        return now.today;
    }

    // ---- laws

    public int feed(long eight, int n) {
        if (!isWithin(n, 1, BYTES_A_FEED)) {
            return NUMBER;
        }
        if (text.size() + n > MOST_BYTES) {
            return FULL;
        }
        text.put(eight, n);
        return text.size();
    }

    public int read(int law) {
        int fault = text.firstFault();
        // THE TAPE is used up even if there is no such LAW.
        text.empty();
        if (!isLaw(law)) {
            return NUMBER;
        }
        if (fault != LawText.NO_FAULT) {
            return -100 - fault;
        }
        for (int term = 0; term < TERMS; term++) {
            now.laws.set(law, term, text.term(term));
        }
        now.laws.set(law, LAW_WAS_READ, 1);
        return text.rules();
    }

    public int law(int law, int what) {
        if (!isLaw(law) || !isWithin(what, 0, TERMS - 1)) {
            return NUMBER;
        }
        return now.isLawThere(law) ? now.laws.get(law, what) : NONE;
    }

    // ---- passes, rides

    public int sell(int law, int start, boolean child) {
        if (!isLaw(law) || !isDay(start)) {
            return NUMBER;
        }
        if (!now.isLawThere(law)) {
            return NONE;
        }
        if (now.passes.isFull()) {
            return FULL;
        }
        return now.addPass(law, start, child);
    }

    public int pass(int pass, int what) {
        if (!now.passes.has(pass)) {
            return NUMBER;
        }
        switch (what) {
            case 0:
                return now.passes.get(pass, PASS_COSTS);
            case 1:
                return now.passes.get(pass, PASS_LAW);
            case 2:
                return now.passes.get(pass, PASS_START);
            case 3:
                return now.countedDays(pass);
            case 4:
                return now.ridesBy(pass);
            case 5:
                return now.paidBy(pass);
            case 6:
                return now.passes.get(pass, PASS_IS_LOST);
            case 7:
                return now.refund(pass);
            case 8:
                return now.lastGoodDay(pass);
            default:
                return NUMBER;
        }
    }

    public int may(int pass, int train, int day) {
        if (!now.passes.has(pass) || !now.trains.has(train) || !isDay(day)) {
            return NUMBER;
        }
        return now.bar(pass, train, day);
    }

    public int ride(int pass, int train, int day) {
        if (!now.passes.has(pass) || !now.trains.has(train) || !isDay(day)) {
            return NUMBER;
        }
        if (now.rides.isFull()) {
            return FULL;
        }
        if (now.bar(pass, train, day) != Book.NO_BAR) {
            return STATE;
        }
        int made = now.addRide(pass, train, day);
        return now.rides.get(made, RIDE_PAYS);
    }

    public int rideOf(int i, int what) {
        if (!now.rides.has(i) || !isWithin(what, 0, RIDE_WIDTH - 1)) {
            return NUMBER;
        }
        return now.rides.get(i, what);
    }

    public int giveBack(int i) {
        if (!now.rides.has(i)) {
            return NUMBER;
        }
        now.rides.drop(i);
        return now.rides.size();
    }

    public int taken(int train, int day) {
        if (!now.trains.has(train) || !isDay(day)) {
            return NUMBER;
        }
        return now.ridesOn(train, day);
    }

    public int lose(int pass) {
        if (!now.passes.has(pass)) {
            return NUMBER;
        }
        if (now.isLost(pass)) {
            return STATE;
        }
        now.passes.set(pass, PASS_IS_LOST, 1);
        return now.refund(pass);
    }

    // ---- wishes

    public int wish(int train, int day) {
        if (!now.trains.has(train) || !isDay(day)) {
            return NUMBER;
        }
        if (now.wishes.isFull()) {
            return FULL;
        }
        int made = now.wishes.append();
        now.wishes.set(made, WISH_TRAIN, train);
        now.wishes.set(made, WISH_DAY, day);
        return now.wishes.size();
    }

    public int unwish() {
        if (now.wishes.size() == 0) {
            return NONE;
        }
        now.wishes.drop(now.wishes.size() - 1);
        return now.wishes.size();
    }

    public int choice(int what) {
        if (!isWithin(what, 0, 4 + MOST_WISHES)) {
            return NUMBER;
        }
        plan.choose(now);
        switch (what) {
            case 0:
                return plan.chosenCost();
            case 1:
                return plan.chosenLaw();
            case 2:
                return plan.chosenStart();
            case 3:
                return plan.chosenDays();
            case 4:
                return plan.chosenGoers();
            default:
                return plan.chosenDay(what - 5);
        }
    }

    public int least(int law, int start) {
        if (!isLaw(law) || !isDay(start)) {
            return NUMBER;
        }
        if (!now.isLawThere(law)) {
            return NONE;
        }
        plan.prepare(now, law);
        return plan.spend(start);
    }

    public int prove() {
        if (proof.due(now, plan) > MOST_ROWS) {
            return FULL;
        }
        proof.write(now, plan);
        return proof.rows.size();
    }

    public int row(int i, int what) {
        if (!isWithin(what, 0, ROW_WIDTH - 1)) {
            return NUMBER;
        }
        return proof.rows.has(i) ? proof.rows.get(i, what) : NONE;
    }

    public int forge(int i, int what, int v) {
        if (!isWithin(what, 0, ROW_WIDTH - 1)) {
            return NUMBER;
        }
        if (!proof.rows.has(i)) {
            return NONE;
        }
        int was = proof.rows.get(i, what);
        proof.rows.set(i, what, v);
        return was;
    }

    public int check() {
        if (proof.due(now, plan) > MOST_ROWS) {
            return FULL;
        }
        return proof.firstWrong(now, plan);
    }

    // ---- scans, parts

    public int scan(int pass, int day, int minute, int station) {
        if (!now.passes.has(pass) || !isStation(station) || !isPast(day) || !isMinute(minute)) {
            return NUMBER;
        }
        if (now.scans.isFull()) {
            return FULL;
        }
        int made = now.scans.append();
        now.scans.set(made, SCAN_PASS, pass);
        now.scans.set(made, SCAN_DAY, day);
        now.scans.set(made, SCAN_MINUTE, minute);
        now.scans.set(made, SCAN_STATION, station);
        now.scans.set(made, SCAN_KNOWN, now.today);
        return made;
    }

    public int miles(int a, int b) {
        if (!isStation(a) || !isStation(b)) {
            return NUMBER;
        }
        return ways.isThere(a, b) ? ways.milesOf(a, b) : NONE;
    }

    public int way(int a, int b) {
        if (!isStation(a) || !isStation(b)) {
            return NUMBER;
        }
        return ways.isThere(a, b) ? ways.linesOf(a, b) : NONE;
    }

    public int ridden(int pass, int k, int what) {
        if (!now.passes.has(pass) || !isWithin(what, 0, 3 + RAILWAYS) || !isPast(k)) {
            return NUMBER;
        }
        ledger.reckon(now, ways, pass, k);
        switch (what) {
            case 0:
                return ledger.legs();
            case 1:
                return ledger.wayless();
            case 2:
                return ledger.doubted();
            case 3:
                return ledger.allMiles();
            default:
                return ledger.milesBy(what - 4);
        }
    }

    public int part(int pass, int railway, int k) {
        if (!now.passes.has(pass) || !isRailway(railway) || !isPast(k)) {
            return NUMBER;
        }
        ledger.reckon(now, ways, pass, k);
        return ledger.share(now.passes.get(pass, PASS_COSTS), railway);
    }

    public int account(int railway, int k) {
        if (!isRailway(railway) || !isPast(k)) {
            return NUMBER;
        }
        int sum = 0;
        for (int pass = 0; pass < now.passes.size(); pass++) {
            ledger.reckon(now, ways, pass, k);
            sum += ledger.share(now.passes.get(pass, PASS_COSTS), railway);
            if (now.isLost(pass)) {
                sum -= ledger.share(now.refund(pass), railway);
            }
        }
        return sum;
    }

    public int many(int what) {
        switch (what) {
            case 0:
                return now.lines.size();
            case 1:
                return now.trains.size();
            case 2:
                return now.lawsThere();
            case 3:
                return now.passes.size();
            case 4:
                return now.rides.size();
            case 5:
                return now.wishes.size();
            case 6:
                return proof.rows.size();
            case 7:
                return now.scans.size();
            case 8:
                return text.size();
            case 9:
                return now.today;
            default:
                return NUMBER;
        }
    }

    // ---- kept

    public int keep() {
        kept.copyFrom(now);
        isKept = true;
        return 1;
    }

    public int back() {
        if (!isKept) {
            return NONE;
        }
        now.copyFrom(kept);
        ways.reckon(now.lines);
        return 1;
    }

    // ---- what a number may be

    private static boolean isWithin(int v, int least, int greatest) {
        return v >= least && v <= greatest;
    }

    private static boolean isStation(int v) {
        return isWithin(v, 0, STATIONS - 1);
    }

    private static boolean isRailway(int v) {
        return isWithin(v, 0, RAILWAYS - 1);
    }

    private static boolean isLaw(int v) {
        return isWithin(v, 0, LAWS - 1);
    }

    private static boolean isDay(int v) {
        return isWithin(v, 0, LAST_DAY);
    }

    private static boolean isMinute(int v) {
        return isWithin(v, 0, MINUTES_A_DAY - 1);
    }

    private static boolean isFareWithQuota(int v) {
        return isWithin(v, 0, MOST_QUOTA * QUOTA_STEP + MOST_FARE) && v % QUOTA_STEP <= MOST_FARE;
    }

    private boolean isPast(int day) {
        return isWithin(day, 0, now.today);
    }

    private static int bit(boolean b) {
        return b ? 1 : 0;
    }

    private static int percents(int amount, int percent) {
        return amount * percent / 100;
    }

    /** Rows of numbers up to a limit. A place outside of them reads as 0 and takes nothing. */
    private static final class Table {
        private final int[] cells;
        private final int limit;
        private final int width;
        private int size;

        Table(int limit, int width) {
            this.limit = Math.max(limit, 0);
            this.width = Math.max(width, 0);
            this.cells = new int[this.limit * this.width];
        }

        int size() {
            return size;
        }

        boolean isFull() {
            return size >= limit;
        }

        boolean has(int i) {
            return i >= 0 && i < size;
        }

        int get(int i, int column) {
            int at = place(i, column);
            return at >= 0 && at < cells.length ? cells[at] : 0;
        }

        void set(int i, int column, int v) {
            int at = place(i, column);
            if (at >= 0 && at < cells.length) {
                cells[at] = v;
            }
        }

        /** The number of a new row of zeros, or -1 if there is no room. */
        int append() {
            if (isFull()) {
                return -1;
            }
            size++;
            for (int column = 0; column < width; column++) {
                set(size - 1, column, 0);
            }
            return size - 1;
        }

        /** Row i goes, and those behind move up. */
        void drop(int i) {
            if (!has(i)) {
                return;
            }
            for (int r = i; r + 1 < size; r++) {
                for (int column = 0; column < width; column++) {
                    set(r, column, get(r + 1, column));
                }
            }
            size--;
        }

        void clear() {
            size = 0;
        }

        void copyFrom(Table other) {
            size = Math.min(other.size, limit);
            for (int at = 0; at < cells.length && at < other.cells.length; at++) {
                cells[at] = other.cells[at];
            }
        }

        private int place(int i, int column) {
            return i >= 0 && i < size && column >= 0 && column < width ? i * width + column : -1;
        }
    }

    /** All that keep() keeps, and what can be told from it alone. */
    private static final class Book {
        static final int NO_BAR = 0;
        static final int BAR_LINE = 1;
        static final int BAR_DAY = 2;
        static final int BAR_LOST = 3;
        static final int BAR_DAYS = 4;
        static final int BAR_QUOTA = 5;

        final Table lines = new Table(MOST_LINES, LINE_WIDTH);
        final Table trains = new Table(MOST_TRAINS, TRAIN_WIDTH);
        final Table laws = new Table(LAWS, LAW_WIDTH);
        final Table passes = new Table(MOST_PASSES, PASS_WIDTH);
        final Table rides = new Table(MOST_RIDES, RIDE_WIDTH);
        final Table wishes = new Table(MOST_WISHES, WISH_WIDTH);
        final Table scans = new Table(MOST_SCANS, SCAN_WIDTH);
        int today;

        Book() {
            for (int law = 0; law < LAWS; law++) {
                laws.append();
            }
        }

        void copyFrom(Book other) {
            lines.copyFrom(other.lines);
            trains.copyFrom(other.trains);
            laws.copyFrom(other.laws);
            passes.copyFrom(other.passes);
            rides.copyFrom(other.rides);
            wishes.copyFrom(other.wishes);
            scans.copyFrom(other.scans);
            today = other.today;
        }

        boolean isLawThere(int law) {
            return laws.get(law, LAW_WAS_READ) == 1;
        }

        int lawsThere() {
            int n = 0;
            for (int law = 0; law < LAWS; law++) {
                n += laws.get(law, LAW_WAS_READ);
            }
            return n;
        }

        // Below, terms is the table of LAWS or that of PASSES, and i the number of one.

        boolean lets(Table terms, int i, int train) {
            int line = trains.get(train, TRAIN_LINE);
            int railway = lines.get(line, LINE_RAILWAY);
            boolean isOfLaw = (terms.get(i, TERM_RAILWAYS) >> railway & 1) == 1;
            boolean isOut = (terms.get(i, TERM_OUT) >> line & 1) == 1;
            return isOfLaw && !isOut;
        }

        int countedDay(Table terms, int i, int train, int day) {
            boolean isByNight = trains.get(train, TRAIN_DEPARTS) >= terms.get(i, TERM_NIGHT) * MINUTES_AN_HOUR;
            return trains.get(train, TRAIN_OVERNIGHT) == 1 && isByNight ? day + 1 : day;
        }

        int pays(Table terms, int i, int train) {
            int sum = 0;
            if (trains.get(train, TRAIN_FAST) == 1) {
                sum += terms.get(i, TERM_FAST);
            }
            if (lines.get(trains.get(train, TRAIN_LINE), LINE_BOAT) == 1) {
                sum += percents(trains.get(train, TRAIN_FARE), terms.get(i, TERM_BOAT));
            }
            return sum;
        }

        int addPass(int law, int start, boolean child) {
            int made = passes.append();
            for (int term = 0; term < TERMS; term++) {
                passes.set(made, term, laws.get(law, term));
            }
            int price = laws.get(law, TERM_PRICE);
            passes.set(made, PASS_COSTS, child ? percents(price, laws.get(law, TERM_CHILD)) : price);
            passes.set(made, PASS_LAW, law);
            passes.set(made, PASS_START, start);
            return made;
        }

        boolean isLost(int pass) {
            return passes.get(pass, PASS_IS_LOST) == 1;
        }

        int lastGoodDay(int pass) {
            return passes.get(pass, PASS_START) + passes.get(pass, TERM_WITHIN) - 1;
        }

        int refund(int pass) {
            int days = passes.get(pass, TERM_DAYS);
            if (days <= 0) {
                return 0;
            }
            int percent = passes.get(pass, isLost(pass) ? TERM_LOST : TERM_REFUND);
            return passes.get(pass, PASS_COSTS) * (days - countedDays(pass)) * percent / (100 * days);
        }

        int bar(int pass, int train, int day) {
            int counted = countedDay(passes, pass, train, day);
            if (!lets(passes, pass, train)) {
                return BAR_LINE;
            }
            if (counted < passes.get(pass, PASS_START) || counted > lastGoodDay(pass)) {
                return BAR_DAY;
            }
            if (isLost(pass)) {
                return BAR_LOST;
            }
            if (!isCounted(pass, counted, rides.size()) && countedDays(pass) >= passes.get(pass, TERM_DAYS)) {
                return BAR_DAYS;
            }
            if (trains.get(train, TRAIN_FAST) == 1 && ridesOn(train, day) >= trains.get(train, TRAIN_QUOTA)) {
                return BAR_QUOTA;
            }
            return NO_BAR;
        }

        int addRide(int pass, int train, int day) {
            int made = rides.append();
            rides.set(made, RIDE_PASS, pass);
            rides.set(made, RIDE_TRAIN, train);
            rides.set(made, RIDE_DAY, day);
            rides.set(made, RIDE_COUNTED, countedDay(passes, pass, train, day));
            rides.set(made, RIDE_PAYS, pays(passes, pass, train));
            return made;
        }

        int countedDays(int pass) {
            int n = 0;
            for (int i = 0; i < rides.size(); i++) {
                if (rides.get(i, RIDE_PASS) == pass && !isCounted(pass, rides.get(i, RIDE_COUNTED), i)) {
                    n++;
                }
            }
            return n;
        }

        int ridesBy(int pass) {
            int n = 0;
            for (int i = 0; i < rides.size(); i++) {
                if (rides.get(i, RIDE_PASS) == pass) {
                    n++;
                }
            }
            return n;
        }

        int paidBy(int pass) {
            int sum = 0;
            for (int i = 0; i < rides.size(); i++) {
                if (rides.get(i, RIDE_PASS) == pass) {
                    sum += rides.get(i, RIDE_PAYS);
                }
            }
            return sum;
        }

        int ridesOn(int train, int day) {
            int n = 0;
            for (int i = 0; i < rides.size(); i++) {
                if (rides.get(i, RIDE_TRAIN) == train && rides.get(i, RIDE_DAY) == day) {
                    n++;
                }
            }
            return n;
        }

        /** Whether one of the RIDES ahead of the given number counts this day for the PASS. */
        private boolean isCounted(int pass, int counted, int ahead) {
            for (int i = 0; i < ahead && i < rides.size(); i++) {
                if (rides.get(i, RIDE_PASS) == pass && rides.get(i, RIDE_COUNTED) == counted) {
                    return true;
                }
            }
            return false;
        }
    }

    /** THE TAPE, and the reading of it as the TEXT of a LAW. */
    private static final class LawText {
        static final int NO_FAULT = -1;

        private static final int MOST_DIGITS = 3;
        private static final int END = -1;
        private static final int NO_NUMBER = -1;
        private static final int NO_KIND = -1;
        private static final int OTHER = 0;
        private static final int LETTER = 1;
        private static final int DIGIT = 2;
        // A kind of RULE has the number of the term that it sets; days sets TERM_DAYS and TERM_WITHIN.
        private static final int FIRST_KIND = TERM_WITHIN;
        private static final int KIND_DAYS = TERM_WITHIN;

        private final int[] bytes = new int[MOST_BYTES];
        private int size;
        // The piece (a WORD, a NUMBER or another byte) at hand: its first place, and the place behind it.
        private int first;
        private int behind;

        private final int[] terms = new int[TERMS];
        private int kindsSeen;
        private int rules;

        int size() {
            return size;
        }

        int rules() {
            return rules;
        }

        int term(int i) {
            return i >= 0 && i < terms.length ? terms[i] : 0;
        }

        void empty() {
            size = 0;
        }

        void put(long eight, int n) {
            for (int i = 0; i < n && size < bytes.length; i++) {
                bytes[size] = (int) (eight >>> 8 * i & 255);
                size++;
            }
        }

        /** Reads all of THE TAPE into the terms: its FAULT, or NO_FAULT. */
        int firstFault() {
            startOver();
            advance();
            for (int n = 0; n < MOST_BYTES && first < size; n++) {
                if (!takeRule()) {
                    return first;
                }
                rules++;
            }
            if (!isSeen(KIND_DAYS) || !isSeen(TERM_PRICE)) {
                return size;
            }
            if (!isSeen(TERM_RAILWAYS)) {
                setTerm(TERM_RAILWAYS, (1 << RAILWAYS) - 1);
            }
            return NO_FAULT;
        }

        private void startOver() {
            behind = 0;
            rules = 0;
            kindsSeen = 0;
            for (int i = 0; i < terms.length; i++) {
                terms[i] = 0;
            }
            setTerm(TERM_NIGHT, 24);
            setTerm(TERM_CHILD, 100);
        }

        // The take methods below go past what they take; if they can't, they answer false, and the
        // piece at hand is the one that is at fault.

        private boolean takeRule() {
            int kind = kindAtHand();
            if (kind == NO_KIND || isSeen(kind) && !mayRepeat(kind)) {
                return false;
            }
            kindsSeen |= 1 << kind;
            advance();
            boolean isTaken = kind == KIND_DAYS ? takeDays() : mayRepeat(kind) ? takeBit(kind) : takeTerm(kind);
            if (!isTaken || kind == TERM_OUT && !takeWord("out")) {
                return false;
            }
            return takeSemicolon();
        }

        private boolean takeTerm(int kind) {
            int v = numberAtHand(0, greatest(kind));
            if (v == NO_NUMBER) {
                return false;
            }
            setTerm(kind, v);
            advance();
            return true;
        }

        private boolean takeDays() {
            int days = numberAtHand(1, 60);
            if (days == NO_NUMBER) {
                return false;
            }
            advance();
            if (!takeWord("of")) {
                return false;
            }
            int within = numberAtHand(days, 60);
            if (within == NO_NUMBER) {
                return false;
            }
            advance();
            setTerm(TERM_DAYS, days);
            setTerm(TERM_WITHIN, within);
            return true;
        }

        private boolean takeBit(int kind) {
            int v = numberAtHand(0, greatest(kind));
            if (v == NO_NUMBER || (term(kind) >> v & 1) == 1) {
                return false;
            }
            setTerm(kind, term(kind) | 1 << v);
            advance();
            return true;
        }

        private boolean takeWord(String word) {
            if (!isAtHand(word)) {
                return false;
            }
            advance();
            return true;
        }

        private boolean takeSemicolon() {
            if (byteAt(first) != ';') {
                return false;
            }
            advance();
            return true;
        }

        private void setTerm(int i, int v) {
            if (i >= 0 && i < terms.length) {
                terms[i] = v;
            }
        }

        private boolean isSeen(int kind) {
            return (kindsSeen >> kind & 1) == 1;
        }

        private static boolean mayRepeat(int kind) {
            return kind == TERM_RAILWAYS || kind == TERM_OUT;
        }

        private int kindAtHand() {
            for (int kind = FIRST_KIND; kind < TERMS; kind++) {
                if (isAtHand(wordOf(kind))) {
                    return kind;
                }
            }
            return NO_KIND;
        }

        private static String wordOf(int kind) {
            switch (kind) {
                case KIND_DAYS:
                    return "days";
                case TERM_PRICE:
                    return "price";
                case TERM_RAILWAYS:
                    return "rail";
                case TERM_OUT:
                    return "line";
                case TERM_NIGHT:
                    return "night";
                case TERM_FAST:
                    return "fast";
                case TERM_BOAT:
                    return "boat";
                case TERM_CHILD:
                    return "child";
                case TERM_REFUND:
                    return "refund";
                default:
                    return "lost";
            }
        }

        private static int greatest(int kind) {
            switch (kind) {
                case TERM_PRICE:
                case TERM_FAST:
                    return 999;
                case TERM_RAILWAYS:
                    return RAILWAYS - 1;
                case TERM_OUT:
                    return MOST_LINES - 1;
                case TERM_NIGHT:
                    return 23;
                default:
                    return 100;
            }
        }

        /** The NUMBER at hand, if it is one and within these; else NO_NUMBER. */
        private int numberAtHand(int least, int greatest) {
            if (sortOf(byteAt(first)) != DIGIT || behind - first > MOST_DIGITS) {
                return NO_NUMBER;
            }
            int v = 0;
            for (int i = first; i < behind; i++) {
                v = 10 * v + byteAt(i) - '0';
            }
            return isWithin(v, least, greatest) ? v : NO_NUMBER;
        }

        private boolean isAtHand(String word) {
            if (behind - first != word.length()) {
                return false;
            }
            for (int i = 0; i < word.length(); i++) {
                if (byteAt(first + i) != word.charAt(i)) {
                    return false;
                }
            }
            return true;
        }

        private void advance() {
            first = behind;
            while (first < size && byteAt(first) == ' ') {
                first++;
            }
            behind = Math.min(first + 1, size);
            int sort = sortOf(byteAt(first));
            while (behind < size && sort != OTHER && sortOf(byteAt(behind)) == sort) {
                behind++;
            }
        }

        private static int sortOf(int b) {
            if (b >= 'a' && b <= 'z') {
                return LETTER;
            }
            return b >= '0' && b <= '9' ? DIGIT : OTHER;
        }

        private int byteAt(int i) {
            return i >= 0 && i < size && i < bytes.length ? bytes[i] : END;
        }
    }

    /** The WAY between each two STATIONS. */
    private static final class Ways {
        private static final int FAR = 1 << 29;

        // A WAY's MILES, and below them its LINES as bits: the lesser number is the better WAY, and
        // ways that follow one another are added, for a best one has no LINE twice.
        private final int[] keys = new int[STATIONS * STATIONS];

        Ways() {
            forget();
        }

        void reckon(Table lines) {
            forget();
            for (int line = 0; line < lines.size(); line++) {
                int key = lines.get(line, LINE_MILES) << MOST_LINES | 1 << line;
                better(lines.get(line, LINE_A), lines.get(line, LINE_B), key);
                better(lines.get(line, LINE_B), lines.get(line, LINE_A), key);
            }
            for (int over = 0; over < STATIONS; over++) {
                for (int a = 0; a < STATIONS; a++) {
                    for (int b = 0; b < STATIONS && isThere(a, over); b++) {
                        better(a, b, keyOf(a, over) + keyOf(over, b));
                    }
                }
            }
        }

        boolean isThere(int a, int b) {
            return keyOf(a, b) < FAR;
        }

        int milesOf(int a, int b) {
            return keyOf(a, b) >> MOST_LINES;
        }

        int linesOf(int a, int b) {
            return keyOf(a, b) & (1 << MOST_LINES) - 1;
        }

        private void forget() {
            for (int at = 0; at < keys.length; at++) {
                keys[at] = at / STATIONS == at % STATIONS ? 0 : FAR;
            }
        }

        private int keyOf(int a, int b) {
            int at = a * STATIONS + b;
            return isStation(a) && isStation(b) && at < keys.length ? keys[at] : FAR;
        }

        private void better(int a, int b, int key) {
            int at = a * STATIONS + b;
            if (isStation(a) && isStation(b) && at < keys.length && key < keys[at]) {
                keys[at] = key;
            }
        }
    }

    /** What CHOICES cost for the WISHES, and THE CHOICE. */
    private static final class Plan {
        // The unlike COUNTED DAYS of the WISHES by the LAW prepared for, rising: of each, what is
        // spared if it is spent, and how many WISHES then go by the PASS.
        private final int[] days = new int[MOST_WISHES];
        private final int[] spared = new int[MOST_WISHES];
        private final int[] goers = new int[MOST_WISHES];
        private int size;
        // The places of those that spare something: what spares most comes first, of several the lesser day.
        private final int[] ranked = new int[MOST_WISHES];
        private int rankedSize;

        private int daysToSpend;
        private int within;
        private int price;
        private int fares;
        // The places of the days that were spent latest, as bits.
        private int spent;

        private int cost;
        private int chosen;
        private int start;

        /** Makes all ready to weigh the STARTS of one LAW; with no LAW there, none has a good day. */
        void prepare(Book book, int law) {
            size = 0;
            fares = 0;
            daysToSpend = book.laws.get(law, TERM_DAYS);
            within = book.laws.get(law, TERM_WITHIN);
            price = book.laws.get(law, TERM_PRICE);
            for (int i = 0; i < book.wishes.size(); i++) {
                prepareWish(book, law, book.wishes.get(i, WISH_TRAIN), book.wishes.get(i, WISH_DAY));
            }
            rankDays();
        }

        private void prepareWish(Book book, int law, int train, int day) {
            int fare = book.trains.get(train, TRAIN_FARE);
            int pay = book.pays(book.laws, law, train);
            int at = placeOf(book.countedDay(book.laws, law, train, day));
            fares += fare;
            if (at >= 0 && at < size && at < spared.length && at < goers.length
                    && pay < fare && book.lets(book.laws, law, train)) {
                spared[at] += fare - pay;
                goers[at]++;
            }
        }

        /** The place of a day among the days, where it is put if it was not there. */
        private int placeOf(int day) {
            int at = 0;
            while (at < size && dayAt(at) < day) {
                at++;
            }
            if (at < size && dayAt(at) == day || size >= MOST_WISHES) {
                return at;
            }
            for (int i = size; i > at; i--) {
                put(i, dayAt(i - 1), sparedAt(i - 1), goersAt(i - 1));
            }
            put(at, day, 0, 0);
            size++;
            return at;
        }

        private void put(int at, int day, int sparedThen, int goersThen) {
            if (at >= 0 && at < days.length && at < spared.length && at < goers.length) {
                days[at] = day;
                spared[at] = sparedThen;
                goers[at] = goersThen;
            }
        }

        private int dayAt(int at) {
            return at >= 0 && at < days.length ? days[at] : 0;
        }

        private int sparedAt(int at) {
            return at >= 0 && at < spared.length ? spared[at] : 0;
        }

        private int goersAt(int at) {
            return at >= 0 && at < goers.length ? goers[at] : 0;
        }

        private void rankDays() {
            rankedSize = 0;
            for (int at = 0; at < size; at++) {
                if (sparedAt(at) > 0) {
                    rankDay(at);
                }
            }
        }

        private void rankDay(int at) {
            int rank = rankedSize;
            while (rank > 0 && sparedAt(rankedAt(rank - 1)) < sparedAt(at)) {
                setRanked(rank, rankedAt(rank - 1));
                rank--;
            }
            setRanked(rank, at);
            rankedSize++;
        }

        private int rankedAt(int rank) {
            return rank >= 0 && rank < ranked.length ? ranked[rank] : -1;
        }

        private void setRanked(int rank, int at) {
            if (rank >= 0 && rank < ranked.length) {
                ranked[rank] = at;
            }
        }

        /** Whether some WISH's COUNTED DAY is good from this START. */
        boolean hasGoodDay(int from) {
            for (int at = 0; at < size; at++) {
                if (isGood(at, from)) {
                    return true;
                }
            }
            return false;
        }

        private boolean isGood(int at, int from) {
            return dayAt(at) >= from && dayAt(at) < from + within;
        }

        /** Spends days as the best CHOICE with the LAW prepared for and this START does: what it COSTS. */
        int spend(int from) {
            int sum = price + fares;
            int left = daysToSpend;
            spent = 0;
            for (int rank = 0; rank < rankedSize && left > 0; rank++) {
                int at = rankedAt(rank);
                if (isGood(at, from)) {
                    sum -= sparedAt(at);
                    spent |= 1 << at;
                    left--;
                }
            }
            return sum;
        }

        private boolean isSpent(int at) {
            return (spent >> at & 1) == 1;
        }

        /** Finds THE CHOICE, and leaves its days spent. */
        void choose(Book book) {
            prepare(book, NONE);
            cost = fares;
            chosen = NONE;
            start = NONE;
            for (int law = 0; law < LAWS; law++) {
                prepare(book, law);
                for (int from = 0; from <= LAST_DAY; from++) {
                    // Only what costs less takes the place of what came ahead of it. A LAW that is not
                    // there can't: it has no good day, so it spares nothing.
                    int costs = spend(from);
                    if (costs < cost) {
                        cost = costs;
                        chosen = law;
                        start = from;
                    }
                }
            }
            prepare(book, chosen);
            spend(start);
        }

        int chosenCost() {
            return cost;
        }

        int chosenLaw() {
            return chosen;
        }

        int chosenStart() {
            return start;
        }

        int chosenDays() {
            return Integer.bitCount(spent);
        }

        int chosenGoers() {
            int sum = 0;
            for (int at = 0; at < size; at++) {
                if (isSpent(at)) {
                    sum += goersAt(at);
                }
            }
            return sum;
        }

        int chosenDay(int i) {
            int n = 0;
            for (int at = 0; at < size; at++) {
                if (isSpent(at)) {
                    if (n == i) {
                        return dayAt(at);
                    }
                    n++;
                }
            }
            return NONE;
        }
    }

    /** ROWS, and THE READER of them. */
    private static final class Proof {
        static final int ALL_RIGHT = -1;

        final Table rows = new Table(MOST_ROWS, ROW_WIDTH);

        /** How many ROWS there should be. */
        int due(Book book, Plan plan) {
            int n = 0;
            for (int law = 0; law < LAWS; law++) {
                plan.prepare(book, law);
                for (int start = 0; start <= LAST_DAY; start++) {
                    if (plan.hasGoodDay(start)) {
                        n++;
                    }
                }
            }
            return n;
        }

        void write(Book book, Plan plan) {
            rows.clear();
            for (int law = 0; law < LAWS; law++) {
                plan.prepare(book, law);
                for (int start = 0; start <= LAST_DAY; start++) {
                    if (plan.hasGoodDay(start)) {
                        int made = rows.append();
                        rows.set(made, ROW_LAW, law);
                        rows.set(made, ROW_START, start);
                        rows.set(made, ROW_LEAST, plan.spend(start));
                    }
                }
            }
        }

        /** The first of ROWS that is not the one due at its place, or is lacking; or ALL_RIGHT. */
        int firstWrong(Book book, Plan plan) {
            int i = 0;
            for (int law = 0; law < LAWS; law++) {
                plan.prepare(book, law);
                for (int start = 0; start <= LAST_DAY; start++) {
                    if (plan.hasGoodDay(start)) {
                        if (!isRow(i, law, start, plan.spend(start))) {
                            return i;
                        }
                        i++;
                    }
                }
            }
            return i < rows.size() ? i : ALL_RIGHT;
        }

        private boolean isRow(int i, int law, int start, int cost) {
            return rows.has(i) && rows.get(i, ROW_LAW) == law && rows.get(i, ROW_START) == start
                    && rows.get(i, ROW_LEAST) == cost;
        }
    }

    /** The LEGS of one PASS as KNOWN on a DAY, and how an amount is parted by their MILES. */
    private static final class Ledger {
        private final int[] order = new int[MOST_SCANS];
        private int known;
        private int legs;
        private int wayless;
        private int doubted;
        private final int[] miles = new int[RAILWAYS];

        void reckon(Book book, Ways ways, int pass, int k) {
            sortScans(book.scans, pass, k);
            legs = 0;
            wayless = 0;
            doubted = 0;
            for (int r = 0; r < miles.length; r++) {
                miles[r] = 0;
            }
            for (int i = 0; i + 1 < known; i++) {
                reckonPair(book, ways, scanAt(i), scanAt(i + 1));
            }
        }

        private void sortScans(Table scans, int pass, int k) {
            known = 0;
            for (int scan = 0; scan < scans.size(); scan++) {
                if (scans.get(scan, SCAN_PASS) == pass && scans.get(scan, SCAN_KNOWN) <= k) {
                    insert(scans, scan);
                }
            }
        }

        private void insert(Table scans, int scan) {
            int at = known;
            while (at > 0 && timeOf(scans, scanAt(at - 1)) > timeOf(scans, scan)) {
                setScan(at, scanAt(at - 1));
                at--;
            }
            setScan(at, scan);
            known++;
        }

        private static int timeOf(Table scans, int scan) {
            return scans.get(scan, SCAN_DAY) * MINUTES_A_DAY + scans.get(scan, SCAN_MINUTE);
        }

        private int scanAt(int i) {
            return i >= 0 && i < order.length ? order[i] : -1;
        }

        private void setScan(int i, int scan) {
            if (i >= 0 && i < order.length) {
                order[i] = scan;
            }
        }

        private void reckonPair(Book book, Ways ways, int earlier, int later) {
            int a = book.scans.get(earlier, SCAN_STATION);
            int b = book.scans.get(later, SCAN_STATION);
            if (a == b || book.scans.get(earlier, SCAN_DAY) != book.scans.get(later, SCAN_DAY)) {
                return;
            }
            legs++;
            int minutes = timeOf(book.scans, later) - timeOf(book.scans, earlier);
            if (!ways.isThere(a, b)) {
                wayless++;
            } else if (ways.milesOf(a, b) > DOUBT_MILES_A_MINUTE * minutes) {
                doubted++;
            } else {
                addMiles(book.lines, ways.linesOf(a, b));
            }
        }

        private void addMiles(Table lines, int bits) {
            for (int line = 0; line < lines.size(); line++) {
                int railway = lines.get(line, LINE_RAILWAY);
                if ((bits >> line & 1) == 1 && railway >= 0 && railway < miles.length) {
                    miles[railway] += lines.get(line, LINE_MILES);
                }
            }
        }

        int legs() {
            return legs;
        }

        int wayless() {
            return wayless;
        }

        int doubted() {
            return doubted;
        }

        int milesBy(int railway) {
            return railway >= 0 && railway < miles.length ? miles[railway] : 0;
        }

        int allMiles() {
            int sum = 0;
            for (int r = 0; r < RAILWAYS; r++) {
                sum += milesBy(r);
            }
            return sum;
        }

        /** What one RAILWAY gets of an amount that is parted by the MILES. */
        int share(int amount, int railway) {
            int all = allMiles();
            if (all <= 0) {
                return railway == 0 ? amount : 0;
            }
            int left = amount;
            int ahead = 0;
            int rest = amount * milesBy(railway) % all;
            for (int r = 0; r < RAILWAYS; r++) {
                left -= amount * milesBy(r) / all;
                int other = amount * milesBy(r) % all;
                if (other > rest || other == rest && r < railway) {
                    ahead++;
                }
            }
            return amount * milesBy(railway) / all + (ahead < left ? 1 : 0);
        }
    }
}
