import java.util.NoSuchElementException;

/** An investor's tax-lot ledger, read from a text, asked by numbers, and changed by acts that can be undone. */
public final class LotLedger {
    public static final int NONE = -1;

    /** What is answered where there is rightly nothing, so that it is not taken for a refusal. */
    private static final int NOTHING = -2;

    private static final int PAPERS = 3;
    private static final int MOST_DAY = 999;
    private static final int MOST_SHARES = 999;
    private static final int MOST_PRICE = 999;
    private static final int MOST_WINDOW = 60;
    private static final int MOST_GAIN = 999999;
    private static final int MOST_RATIO = 9;
    private static final int MOST_WAIT = 99;
    private static final int MOST_SEED = 65536;
    private static final int MOST_DRAWN = 12;

    private static final int TAPE_ROOM = 900;
    private static final int FEED_BYTES = 20;
    private static final int TOLD_ROOM = 16;
    private static final int SPLIT_ROOM = 4;
    private static final int UNSURE_ROOM = 4;
    private static final int GAIN_ROOM = 6;
    private static final int FIT_ROOM = 16;
    private static final int TRADE_ROOM = 24;
    private static final int ACT_ROOM = 16;
    private static final int IMAGE_ROOM = 3;

    /** Trades NOW and those that are drawn behind them. */
    private static final int BOOK_ROOM = TRADE_ROOM + MOST_DRAWN;
    /** A buy or sell adds at most one to LOTS and OPEN PIECES together, so BOOK_ROOM of either is never passed;
     *  the rest is for a LOT that stands parted for a moment. */
    private static final int LOT_ROOM = BOOK_ROOM + 4;
    /** The k-th TRADE BOOKED finds at most k LOTS to make PIECES of. */
    private static final int PIECE_ROOM = BOOK_ROOM * (BOOK_ROOM + 1) / 2;

    private static final int BUY = 0;
    private static final int SELL = 1;
    private static final int SPLIT = 2;

    private static final int FIRST = 0;
    private static final int LAST = 1;
    private static final int DEAREST = 2;
    private static final int CHEAPEST = 3;

    private static final int FINE = 0;
    private static final int NONE_SUCH = 1;
    private static final int BAD_NUMBER = 2;
    private static final int NO_ROOM = 3;
    private static final int FAULTY = 4;
    private static final int NOT_SO = 5;
    private static final int NOTHING_LEFT = 6;

    private static final int FAULT_SHORT = 7;

    private final byte[] tape = new byte[TAPE_ROOM];
    private int taped;
    private final Reader reader = new Reader();
    private boolean present;
    private Told told = new Told();
    private Told spareTold = new Told();
    private Trades now = new Trades(TRADE_ROOM);
    private Trades trial = new Trades(TRADE_ROOM);
    private Book book = new Book();
    private Book trialBook = new Book();
    private final History history = new History();
    private final Trades[] images = new Trades[IMAGE_ROOM];
    private int imageCount;
    private final Fits known = new Fits();
    private int refusal;
    private int faultNumber;
    private int faultPlace;

    public LotLedger() {
        for (int i = 0; i < IMAGE_ROOM; i++) {
            images[i] = new Trades(TRADE_ROOM);
        }
    }

    // ---- the ledger

    public int feed(int a, int b, int c, int d, int e) {
        if (taped + FEED_BYTES > TAPE_ROOM) {
            return NONE;
        }
        putOnTape(a);
        putOnTape(b);
        putOnTape(c);
        putOnTape(d);
        putOnTape(e);
        return taped;
    }

    private void putOnTape(int word) {
        for (int shift = 24; shift >= 0 && taped < TAPE_ROOM; shift -= 8) {
            tape[taped] = (byte) (word >>> shift);
            taped++;
        }
    }

    public int ledger(int n) {
        if (n < 0 || n > taped) {
            return refuse(BAD_NUMBER);
        }
        taped = 0;
        if (!reader.readText(tape, n, spareTold)) {
            return refuseText(reader.faultMet, reader.placeMet);
        }
        if (!trialBook.bookAll(spareTold.trades, spareTold.window, MOST_DAY)) {
            return refuseText(FAULT_SHORT, n);
        }
        takeOverTold();
        faultNumber = 0;
        refusal = FINE;
        return now.count;
    }

    private int refuseText(int fault, int place) {
        faultNumber = fault;
        faultPlace = place;
        return refuse(FAULTY);
    }

    /** What was just read into the spare rows, and booked on trial, is the LEDGER from now on. */
    private void takeOverTold() {
        Told read = spareTold;
        spareTold = told;
        told = read;
        now.copyFrom(told.trades);
        takeOverTrialBook();
        history.kept = 0;
        imageCount = 0;
        known.found = false;
        present = true;
    }

    private void takeOverTrialBook() {
        Book old = book;
        book = trialBook;
        trialBook = old;
    }

    public int fault() {
        return faultNumber;
    }

    public int where() {
        return refusal == FAULTY ? faultPlace : NONE;
    }

    // ---- trades

    public int trade(int t, int what) {
        if (!now.has(t) || what < 0 || what > 6) {
            return refuse(NONE_SUCH);
        }
        refusal = FINE;
        switch (what) {
            case 0: return now.sort[t];
            case 1: return now.paper[t];
            case 2: return now.day[t];
            case 3: return now.shares[t];
            case 4: return now.price[t];
            case 5: return now.rule[t];
            default: return book.place[t];
        }
    }

    public int booked(int i) {
        if (!now.has(i)) {
            return refuse(NONE_SUCH);
        }
        refusal = FINE;
        return book.order[i];
    }

    // ---- lots

    public int held(int p) {
        if (!hasPaper(p)) {
            return refuse(NONE_SUCH);
        }
        refusal = FINE;
        return book.holdings[p].allShares();
    }

    public long cost(int p) {
        if (!hasPaper(p)) {
            return refuse(NONE_SUCH);
        }
        refusal = FINE;
        return book.holdings[p].allCost();
    }

    public int lots(int p) {
        if (!hasPaper(p)) {
            return refuse(NONE_SUCH);
        }
        refusal = FINE;
        return book.holdings[p].count;
    }

    public int lot(int p, int i, int what) {
        if (!hasLot(p, i) || what < 0 || what > 4) {
            return refuse(NONE_SUCH);
        }
        refusal = FINE;
        Lot row = book.holdings[p].rows[i];
        switch (what) {
            case 0: return row.shares;
            case 1: return row.day;
            case 2: return row.buy;
            case 3: return row.washed ? 1 : 0;
            default: return row.chain;
        }
    }

    public long lotCost(int p, int i) {
        if (!hasLot(p, i)) {
            return refuse(NONE_SUCH);
        }
        refusal = FINE;
        return book.holdings[p].rows[i].cost;
    }

    public long mean(int p, boolean lower) {
        if (!hasPaper(p)) {
            return refuse(NONE_SUCH);
        }
        refusal = FINE;
        long whole = book.holdings[p].allCost();
        long by = book.holdings[p].allShares();
        if (by == 0) {
            return lower ? 1 : 0;
        }
        long common = commonDivisor(whole, by);
        if (common == 0) {
            return 0;
        }
        return (lower ? by : whole) / common;
    }

    private static long commonDivisor(long a, long b) {
        long more = a;
        long less = b;
        // Each two rounds halve the numbers, so 128 are enough for any long.
        for (int k = 0; k < 128 && less != 0; k++) {
            long rest = more % less;
            more = less;
            less = rest;
        }
        return more;
    }

    public long worth(int p, int price) {
        if (!hasPaper(p)) {
            refuse(NONE_SUCH);
            return 0;
        }
        if (!isWithin(price, 0, MOST_PRICE)) {
            refuse(BAD_NUMBER);
            return 0;
        }
        refusal = FINE;
        return (long) book.holdings[p].allShares() * price - book.holdings[p].allCost();
    }

    public int chain() {
        if (!present) {
            return refuse(NONE_SUCH);
        }
        refusal = FINE;
        int longest = 0;
        for (int p = 0; p < PAPERS; p++) {
            longest = Math.max(longest, book.holdings[p].longestChain());
        }
        return longest;
    }

    // ---- sells

    public long gain(int t) {
        if (!now.isSell(t)) {
            refuse(NONE_SUCH);
            return 0;
        }
        refusal = FINE;
        return book.gainOf(t);
    }

    public long deferred(int t) {
        if (!now.isSell(t)) {
            return refuse(NONE_SUCH);
        }
        refusal = FINE;
        return book.deferredOf(t);
    }

    public int pieces(int t) {
        if (!now.isSell(t)) {
            return refuse(NONE_SUCH);
        }
        refusal = FINE;
        return book.pieceCount[t];
    }

    public int piece(int t, int i, int what) {
        int k = pieceRow(t, i);
        if (k < 0 || what < 0 || what > 3) {
            return refuse(NONE_SUCH);
        }
        refusal = FINE;
        switch (what) {
            case 0: return book.sold.shares[k];
            case 1: return book.sold.buy[k];
            case 2: return book.sold.chain[k];
            default: return book.sold.left[k];
        }
    }

    public long pieceSum(int t, int i, int what) {
        int k = pieceRow(t, i);
        if (k < 0 || what < 0 || what > 2) {
            return refuse(NONE_SUCH);
        }
        refusal = FINE;
        switch (what) {
            case 0: return book.sold.cost[k];
            case 1: return book.sold.proceeds[k];
            default: return book.sold.moved[k];
        }
    }

    public long gains() {
        if (!present) {
            refuse(NONE_SUCH);
            return 0;
        }
        refusal = FINE;
        return book.allGains();
    }

    public long deferrals() {
        if (!present) {
            return refuse(NONE_SUCH);
        }
        refusal = FINE;
        return book.allDeferred();
    }

    public long lost() {
        if (!present) {
            return refuse(NONE_SUCH);
        }
        refusal = FINE;
        return book.lostCost;
    }

    public int open() {
        if (!present) {
            return refuse(NONE_SUCH);
        }
        refusal = FINE;
        return book.openCount;
    }

    // ---- what if

    public long byRule(int t, int rule) {
        if (!now.isSell(t)) {
            refuse(NONE_SUCH);
            return 0;
        }
        if (!isWithin(rule, FIRST, CHEAPEST)) {
            refuse(BAD_NUMBER);
            return 0;
        }
        trial.copyFrom(now);
        trial.rule[t] = rule;
        return trialGains(told.window);
    }

    public int leastRule(int t) {
        if (!now.isSell(t)) {
            return refuse(NONE_SUCH);
        }
        refusal = FINE;
        trial.copyFrom(now);
        int least = now.rule[t];
        long leastGains = 0;
        boolean any = false;
        for (int rule = FIRST; rule <= CHEAPEST; rule++) {
            trial.rule[t] = rule;
            if (trialBook.bookAll(trial, told.window, MOST_DAY)) {
                long all = trialBook.allGains();
                if (!any || all < leastGains) {
                    least = rule;
                    leastGains = all;
                    any = true;
                }
            }
        }
        return least;
    }

    public long byWindow(int w) {
        if (!present) {
            refuse(NONE_SUCH);
            return 0;
        }
        if (!isWithin(w, 0, MOST_WINDOW)) {
            refuse(BAD_NUMBER);
            return 0;
        }
        trial.copyFrom(now);
        return trialGains(w);
    }

    private long trialGains(int window) {
        if (!trialBook.bookAll(trial, window, MOST_DAY)) {
            refuse(NOT_SO);
            return 0;
        }
        refusal = FINE;
        return trialBook.allGains();
    }

    public long until(int day) {
        if (!present) {
            refuse(NONE_SUCH);
            return 0;
        }
        if (!isWithin(day, 0, MOST_DAY)) {
            refuse(BAD_NUMBER);
            return 0;
        }
        refusal = FINE;
        trialBook.bookAll(now, told.window, day);
        return trialBook.allGains();
    }

    public int heldAt(int p, int day) {
        if (!hasPaper(p)) {
            return refuse(NONE_SUCH);
        }
        if (!isWithin(day, 0, MOST_DAY)) {
            return refuse(BAD_NUMBER);
        }
        refusal = FINE;
        trialBook.bookAll(now, told.window, day);
        return trialBook.holdings[p].allShares();
    }

    public int later(int t) {
        if (!now.isSell(t)) {
            return refuse(NONE_SUCH);
        }
        refusal = FINE;
        trial.copyFrom(now);
        for (int days = 0; days <= MOST_WAIT && now.day[t] + days <= MOST_DAY; days++) {
            trial.day[t] = now.day[t] + days;
            if (trialBook.bookAll(trial, told.window, MOST_DAY) && trialBook.deferredOf(t) == 0) {
                return days;
            }
        }
        return NOTHING;
    }

    // ---- unsure prices

    public int fits() {
        if (!present) {
            return refuse(NONE_SUCH);
        }
        refusal = FINE;
        findFits();
        return known.count;
    }

    public int fitAt(int i) {
        if (!present) {
            return refuse(NONE_SUCH);
        }
        findFits();
        if (i < 0 || i >= known.count) {
            return refuse(NONE_SUCH);
        }
        refusal = FINE;
        return known.sets[i];
    }

    public int could() {
        if (!present) {
            return refuse(NONE_SUCH);
        }
        refusal = FINE;
        findFits();
        return known.inSome();
    }

    public int surely() {
        if (!present) {
            return refuse(NONE_SUCH);
        }
        refusal = FINE;
        findFits();
        return known.inAll();
    }

    public int ask() {
        if (!present) {
            return refuse(NONE_SUCH);
        }
        refusal = FINE;
        findFits();
        return known.bestToAsk(told.unsureCount);
    }

    public int askLeaves() {
        if (!present) {
            return refuse(NONE_SUCH);
        }
        refusal = FINE;
        findFits();
        int asked = known.bestToAsk(told.unsureCount);
        return asked < 0 ? NOTHING : known.leftAtMost(asked);
    }

    public int judge() {
        if (!present) {
            return refuse(NONE_SUCH);
        }
        refusal = FINE;
        trialBook.bookAll(told.trades, told.window, MOST_DAY);
        return firstWrongGain();
    }

    /** Found once for a LEDGER, since FITS are of TRADES as told, which no ACT changes. */
    private void findFits() {
        if (known.found) {
            return;
        }
        known.found = true;
        known.count = 0;
        int sets = 1 << told.unsureCount;
        for (int set = 0; set < sets && set < FIT_ROOM; set++) {
            if (isFit(set)) {
                known.sets[known.count] = set;
                known.count++;
            }
        }
    }

    private boolean isFit(int set) {
        trial.copyFrom(told.trades);
        for (int u = 0; u < told.unsureCount; u++) {
            int t = told.unsureTrade[u];
            if ((set >> u & 1) == 1 && trial.has(t)) {
                trial.price[t] = told.unsurePrice[u];
            }
        }
        return trialBook.bookAll(trial, told.window, MOST_DAY) && firstWrongGain() == NOTHING;
    }

    /** By what the trial book has. */
    private int firstWrongGain() {
        for (int g = 0; g < told.gainCount; g++) {
            if (trialBook.gainOf(told.gainTrade[g]) != told.gainSum[g]) {
                return g;
            }
        }
        return NOTHING;
    }

    // ---- drawn

    public long drawnGains(int seed, int n) {
        if (!present) {
            refuse(NONE_SUCH);
            return 0;
        }
        if (!isWithin(seed, 0, MOST_SEED) || !isWithin(n, 0, MOST_DRAWN)) {
            refuse(BAD_NUMBER);
            return 0;
        }
        refusal = FINE;
        bookDrawn(seed, n);
        return trialBook.allGains();
    }

    public int drawnHeld(int p, int seed, int n) {
        if (!hasPaper(p)) {
            return refuse(NONE_SUCH);
        }
        if (!isWithin(seed, 0, MOST_SEED) || !isWithin(n, 0, MOST_DRAWN)) {
            return refuse(BAD_NUMBER);
        }
        refusal = FINE;
        bookDrawn(seed, n);
        return trialBook.holdings[p].allShares();
    }

    private void bookDrawn(int seed, int n) {
        trialBook.bookAll(now, told.window, MOST_DAY);
        int day = now.latestDay();
        int draw = seed;
        for (int k = 0; k < n && k < MOST_DRAWN; k++) {
            draw = nextDraw(draw);
            int paper = draw % PAPERS;
            draw = nextDraw(draw);
            boolean sells = draw % 3 == 0;
            draw = nextDraw(draw);
            int shares = draw % 20 + 1;
            draw = nextDraw(draw);
            int price = draw % 100;
            if (sells) {
                trialBook.bookSell(now.count + k, paper, day, shares, price, FIRST);
            } else {
                trialBook.bookBuy(now.count + k, paper, day, shares, price);
            }
        }
    }

    private static int nextDraw(int seed) {
        return (75 * seed + 74) % 65537;
    }

    // ---- acts

    public int buy(int p, int day, int shares, int price) {
        if (!hasPaper(p)) {
            return refuse(NONE_SUCH);
        }
        if (!isWithin(day, 0, MOST_DAY) || !isWithin(shares, 1, MOST_SHARES) || !isWithin(price, 0, MOST_PRICE)) {
            return refuse(BAD_NUMBER);
        }
        return bookOneMore(BUY, p, day, shares, price, NOTHING);
    }

    public int sell(int p, int day, int shares, int price, int rule) {
        if (!hasPaper(p) || !isWithin(rule, FIRST, CHEAPEST)) {
            return refuse(NONE_SUCH);
        }
        if (!isWithin(day, 0, MOST_DAY) || !isWithin(shares, 1, MOST_SHARES) || !isWithin(price, 0, MOST_PRICE)) {
            return refuse(BAD_NUMBER);
        }
        return bookOneMore(SELL, p, day, shares, price, rule);
    }

    public int split(int p, int day, int a, int b) {
        if (!hasPaper(p)) {
            return refuse(NONE_SUCH);
        }
        if (!isWithin(day, 0, MOST_DAY) || !isWithin(a, 1, MOST_RATIO) || !isWithin(b, 1, MOST_RATIO)) {
            return refuse(BAD_NUMBER);
        }
        if (now.splits() >= SPLIT_ROOM) {
            return refuse(NO_ROOM);
        }
        return bookOneMore(SPLIT, p, day, a, b, NOTHING);
    }

    private int bookOneMore(int sort, int p, int day, int shares, int price, int rule) {
        if (now.count >= TRADE_ROOM) {
            return refuse(NO_ROOM);
        }
        trial.copyFrom(now);
        trial.add(sort, p, day, shares, price, rule);
        return actByTrial() ? now.count - 1 : refuse(NOT_SO);
    }

    public int strike(int t) {
        if (!now.has(t)) {
            return refuse(NONE_SUCH);
        }
        trial.copyFrom(now);
        trial.remove(t);
        return actByTrial() ? now.count : refuse(NOT_SO);
    }

    public int rule(int t, int rule) {
        if (!now.isSell(t) || !isWithin(rule, FIRST, CHEAPEST)) {
            return refuse(NONE_SUCH);
        }
        int had = now.rule[t];
        trial.copyFrom(now);
        trial.rule[t] = rule;
        return actByTrial() ? had : refuse(NOT_SO);
    }

    /** The trial trades become those NOW, unless some sell is SHORT by them. */
    private boolean actByTrial() {
        if (!trialBook.bookAll(trial, told.window, MOST_DAY)) {
            return false;
        }
        history.keep(now);
        Trades old = now;
        now = trial;
        trial = old;
        takeOverTrialBook();
        refusal = FINE;
        return true;
    }

    public boolean undo() {
        if (history.kept <= 0) {
            refuse(NOTHING_LEFT);
            return false;
        }
        refusal = FINE;
        history.giveBack(now);
        book.bookAll(now, told.window, MOST_DAY);
        return true;
    }

    public int image() {
        if (!present) {
            return refuse(NONE_SUCH);
        }
        if (imageCount >= IMAGE_ROOM) {
            return refuse(NO_ROOM);
        }
        refusal = FINE;
        images[imageCount].copyFrom(now);
        imageCount++;
        return imageCount - 1;
    }

    public boolean back(int image) {
        if (image < 0 || image >= imageCount || image >= IMAGE_ROOM) {
            refuse(NONE_SUCH);
            return false;
        }
        refusal = FINE;
        now.copyFrom(images[image]);
        book.bookAll(now, told.window, MOST_DAY);
        history.kept = 0;
        return true;
    }

    // ---- what is told

    public int led(int i) throws NoSuchElementException {
        int seen = 0;
        for (int t = 0; t < now.count; t++) {
            if (now.isSell(t) && book.deferredOf(t) > 0) {
                if (seen == i) {
                    return t;
                }
                seen++;
            }
        }
        throw new NoSuchElementException("no such sell with something deferred");
    }

    public int size(int what) {
        switch (what) {
            case 0: return told.window;
            case 1: return now.count;
            case 2: return told.trades.count;
            case 3: return told.unsureCount;
            case 4: return told.gainCount;
            case 5: return history.kept;
            case 6: return imageCount;
            case 7: return taped;
            default: return NONE;
        }
    }

    public int trouble() {
        return refusal;
    }

    private int refuse(int number) {
        refusal = number;
        return NONE;
    }

    private boolean hasPaper(int p) {
        return present && p >= 0 && p < PAPERS;
    }

    private boolean hasLot(int p, int i) {
        return hasPaper(p) && i >= 0 && i < book.holdings[p].count;
    }

    /** Where the book has the i-th PIECE of a sell; below 0 if there is none such. */
    private int pieceRow(int t, int i) {
        if (!now.isSell(t) || i < 0 || i >= book.pieceCount[t]) {
            return NONE;
        }
        return book.firstPiece[t] + i;
    }

    private static boolean isWithin(int number, int least, int most) {
        return number >= least && number <= most;
    }

    /** TRADES by their numbers, a column for each thing that is told of them (A and B of a split as SHARES and PRICE). */
    private static final class Trades {
        final int room;
        final int[] sort;
        final int[] paper;
        final int[] day;
        final int[] shares;
        final int[] price;
        final int[] rule;
        int count;

        Trades(int rows) {
            room = rows < 0 ? 0 : rows;
            sort = new int[room];
            paper = new int[room];
            day = new int[room];
            shares = new int[room];
            price = new int[room];
            rule = new int[room];
        }

        boolean has(int t) {
            return t >= 0 && t < count;
        }

        boolean isSell(int t) {
            return has(t) && sort[t] == SELL;
        }

        int splits() {
            int found = 0;
            for (int t = 0; t < count; t++) {
                if (sort[t] == SPLIT) {
                    found++;
                }
            }
            return found;
        }

        int latestDay() {
            int latest = 0;
            for (int t = 0; t < count; t++) {
                latest = Math.max(latest, day[t]);
            }
            return latest;
        }

        void copyFrom(Trades other) {
            int rows = Math.min(other.count, room);
            System.arraycopy(other.sort, 0, sort, 0, rows);
            System.arraycopy(other.paper, 0, paper, 0, rows);
            System.arraycopy(other.day, 0, day, 0, rows);
            System.arraycopy(other.shares, 0, shares, 0, rows);
            System.arraycopy(other.price, 0, price, 0, rows);
            System.arraycopy(other.rule, 0, rule, 0, rows);
            count = rows;
        }

        void add(int itsSort, int itsPaper, int itsDay, int itsShares, int itsPrice, int itsRule) {
            if (count >= room) {
                return;
            }
            sort[count] = itsSort;
            paper[count] = itsPaper;
            day[count] = itsDay;
            shares[count] = itsShares;
            price[count] = itsPrice;
            rule[count] = itsRule;
            count++;
        }

        void remove(int t) {
            if (!has(t)) {
                return;
            }
            for (int k = t; k + 1 < count; k++) {
                sort[k] = sort[k + 1];
                paper[k] = paper[k + 1];
                day[k] = day[k + 1];
                shares[k] = shares[k + 1];
                price[k] = price[k + 1];
                rule[k] = rule[k + 1];
            }
            count--;
        }
    }

    /** What a text tells. */
    private static final class Told {
        boolean windowTold;
        int window;
        final Trades trades = new Trades(TOLD_ROOM);
        final int[] unsureTrade = new int[UNSURE_ROOM];
        final int[] unsurePrice = new int[UNSURE_ROOM];
        int unsureCount;
        final int[] gainTrade = new int[GAIN_ROOM];
        final int[] gainSum = new int[GAIN_ROOM];
        int gainCount;

        void forgetAll() {
            windowTold = false;
            window = 0;
            trades.count = 0;
            unsureCount = 0;
            gainCount = 0;
        }

        boolean isUnsure(int t) {
            for (int u = 0; u < unsureCount; u++) {
                if (unsureTrade[u] == t) {
                    return true;
                }
            }
            return false;
        }

        boolean hasGain(int t) {
            for (int g = 0; g < gainCount; g++) {
                if (gainTrade[g] == t) {
                    return true;
                }
            }
            return false;
        }

        void addUnsure(int t, int price) {
            if (unsureCount < UNSURE_ROOM) {
                unsureTrade[unsureCount] = t;
                unsurePrice[unsureCount] = price;
                unsureCount++;
            }
        }

        void addGain(int t, int sum) {
            if (gainCount < GAIN_ROOM) {
                gainTrade[gainCount] = t;
                gainSum[gainCount] = sum;
                gainCount++;
            }
        }
    }

    /** Reads a text from the left and stops at the first FAULT, so that no later one can be told instead. */
    private static final class Reader {
        private static final int FORM = 1;
        private static final int UNTOLD = 2;
        private static final int AGAIN = 3;
        private static final int BOUNDS = 4;
        private static final int MANY = 5;
        private static final int LACKS = 6;

        private static final int AT_END = 0;
        private static final int WORD = 1;
        private static final int WHOLE = 2;
        private static final int MARK = 3;
        private static final int NO_TOKEN = 4;

        private static final int WORD_LENGTH = 8;
        private static final int WHOLE_LENGTH = 6;

        int faultMet;
        int placeMet;
        private byte[] text;
        private int length;
        private int start;
        private int end;
        private int kind;
        private int value;
        private Told into;

        boolean readText(byte[] bytes, int n, Told rows) {
            text = bytes;
            length = Math.min(n, bytes.length);
            into = rows;
            into.forgetAll();
            end = 0;
            // No text has more LINES than bytes.
            for (int lines = 0; lines <= length; lines++) {
                step();
                if (!readLine()) {
                    return false;
                }
                step();
                if (kind == AT_END) {
                    return true;
                }
                if (kind != MARK) {
                    return faultHere(FORM);
                }
            }
            return faultHere(FORM);
        }

        private boolean readLine() {
            if (kind != WORD) {
                return faultHere(FORM);
            }
            if (isWord("ledger")) {
                return readWindow();
            }
            int sort = sortByWord();
            boolean unsure = isWord("unsure");
            if (sort < 0 && !unsure && !isWord("gain")) {
                return faultHere(FORM);
            }
            if (!into.windowTold) {
                return faultHere(LACKS);
            }
            if (sort >= 0) {
                return readTrade(sort);
            }
            return unsure ? readUnsure() : readGain();
        }

        private boolean readWindow() {
            if (into.windowTold) {
                return faultHere(AGAIN);
            }
            step();
            if (kind != WORD || !isWord("window")) {
                return faultHere(FORM);
            }
            if (!readWhole(0, MOST_WINDOW)) {
                return false;
            }
            into.window = value;
            into.windowTold = true;
            return true;
        }

        private boolean readTrade(int sort) {
            boolean splits = sort == SPLIT;
            if (into.trades.count >= TOLD_ROOM || splits && into.trades.splits() >= SPLIT_ROOM) {
                return faultHere(MANY);
            }
            if (!readWhole(0, PAPERS - 1)) {
                return false;
            }
            int paper = value;
            if (!readWhole(0, MOST_DAY)) {
                return false;
            }
            int day = value;
            if (!readWhole(1, splits ? MOST_RATIO : MOST_SHARES)) {
                return false;
            }
            int shares = value;
            if (!readWhole(splits ? 1 : 0, splits ? MOST_RATIO : MOST_PRICE)) {
                return false;
            }
            int price = value;
            int rule = NOTHING;
            if (sort == SELL) {
                step();
                rule = ruleByWord();
                if (rule < 0) {
                    return faultHere(FORM);
                }
            }
            into.trades.add(sort, paper, day, shares, price, rule);
            return true;
        }

        private boolean readUnsure() {
            if (into.unsureCount >= UNSURE_ROOM) {
                return faultHere(MANY);
            }
            step();
            if (kind != WHOLE) {
                return faultHere(FORM);
            }
            int t = value;
            if (!into.trades.has(t) || into.trades.sort[t] == SPLIT) {
                return faultHere(UNTOLD);
            }
            if (into.isUnsure(t)) {
                return faultHere(AGAIN);
            }
            if (!readWhole(0, MOST_PRICE)) {
                return false;
            }
            into.addUnsure(t, value);
            return true;
        }

        private boolean readGain() {
            if (into.gainCount >= GAIN_ROOM) {
                return faultHere(MANY);
            }
            step();
            if (kind != WHOLE) {
                return faultHere(FORM);
            }
            int t = value;
            if (!into.trades.isSell(t)) {
                return faultHere(UNTOLD);
            }
            if (into.hasGain(t)) {
                return faultHere(AGAIN);
            }
            step();
            boolean down = isWord("down");
            if (!down && !isWord("up")) {
                return faultHere(FORM);
            }
            if (!readWhole(0, MOST_GAIN)) {
                return false;
            }
            into.addGain(t, down ? -value : value);
            return true;
        }

        private boolean readWhole(int least, int most) {
            step();
            if (kind != WHOLE) {
                return faultHere(FORM);
            }
            return value >= least && value <= most || faultHere(BOUNDS);
        }

        /** At the TOKEN that was met last; always false. */
        private boolean faultHere(int number) {
            faultMet = number;
            placeMet = start;
            return false;
        }

        private int sortByWord() {
            if (isWord("buy")) {
                return BUY;
            }
            if (isWord("sell")) {
                return SELL;
            }
            return isWord("split") ? SPLIT : NONE;
        }

        private int ruleByWord() {
            if (isWord("first")) {
                return FIRST;
            }
            if (isWord("last")) {
                return LAST;
            }
            if (isWord("dearest")) {
                return DEAREST;
            }
            return isWord("cheapest") ? CHEAPEST : NONE;
        }

        private boolean isWord(String word) {
            if (kind != WORD || end - start != word.length()) {
                return false;
            }
            for (int i = 0; i < word.length() && start + i < length; i++) {
                if (text[start + i] != word.charAt(i)) {
                    return false;
                }
            }
            return true;
        }

        /** Goes on to the next TOKEN. */
        private void step() {
            start = end;
            while (start < length && text[start] == ' ') {
                start++;
            }
            end = start;
            if (start >= length) {
                kind = AT_END;
            } else if (isLetter(text[start])) {
                while (end < length && isLetter(text[end])) {
                    end++;
                }
                kind = end - start <= WORD_LENGTH ? WORD : NO_TOKEN;
            } else if (isDigit(text[start])) {
                stepOverDigits();
            } else {
                end = start + 1;
                kind = text[start] == ';' ? MARK : NO_TOKEN;
            }
        }

        private void stepOverDigits() {
            value = 0;
            while (end < length && isDigit(text[end])) {
                // Digits beyond a WHOLE's length make no TOKEN: their value is never asked for.
                if (end - start < WHOLE_LENGTH) {
                    value = value * 10 + text[end] - '0';
                }
                end++;
            }
            kind = end - start <= WHOLE_LENGTH ? WHOLE : NO_TOKEN;
        }

        private static boolean isLetter(byte c) {
            return c >= 'a' && c <= 'z';
        }

        private static boolean isDigit(byte c) {
            return c >= '0' && c <= '9';
        }
    }

    private static final class Lot {
        int shares;
        long cost;
        int day;
        int buy;
        boolean washed;
        int chain;
    }

    /** The LOTS of one PAPER in their order; the rows behind them are spare ones, so that none is ever made anew. */
    private static final class Lots {
        final Lot[] rows = new Lot[LOT_ROOM];
        int count;

        Lots() {
            for (int i = 0; i < LOT_ROOM; i++) {
                rows[i] = new Lot();
            }
        }

        void addBought(int buy, int day, int shares, int price) {
            if (count >= LOT_ROOM) {
                return;
            }
            Lot row = rows[count];
            row.shares = shares;
            row.cost = (long) shares * price;
            row.day = day;
            row.buy = buy;
            row.washed = false;
            row.chain = 0;
            count++;
        }

        /** So many SHARES stand at i as a LOT of their own then, the rest right behind; a LOT with no more stays whole. */
        void part(int i, int shares) {
            if (i < 0 || i >= count || count >= LOT_ROOM || shares <= 0 || shares >= rows[i].shares) {
                return;
            }
            Lot rest = rows[i];
            Lot own = rows[count];
            for (int k = count; k > i; k--) {
                rows[k] = rows[k - 1];
            }
            rows[i] = own;
            count++;
            own.shares = shares;
            own.cost = rest.cost * shares / rest.shares;
            own.day = rest.day;
            own.buy = rest.buy;
            own.washed = rest.washed;
            own.chain = rest.chain;
            rest.shares -= shares;
            rest.cost -= own.cost;
        }

        void remove(int i) {
            if (i < 0 || i >= count) {
                return;
            }
            Lot spare = rows[i];
            for (int k = i; k + 1 < count; k++) {
                rows[k] = rows[k + 1];
            }
            count--;
            rows[count] = spare;
        }

        /** Out of which LOT a sell takes next; below 0 with none. */
        int nextBy(int rule) {
            if (count == 0 || rule == FIRST) {
                return count == 0 ? NONE : 0;
            }
            if (rule == LAST) {
                return count - 1;
            }
            int best = 0;
            for (int i = 1; i < count; i++) {
                long more = rows[i].cost * rows[best].shares - rows[best].cost * rows[i].shares;
                if (rule == DEAREST ? more > 0 : more < 0) {
                    best = i;
                }
            }
            return best;
        }

        int allShares() {
            int sum = 0;
            for (int i = 0; i < count; i++) {
                sum += rows[i].shares;
            }
            return sum;
        }

        long allCost() {
            long sum = 0;
            for (int i = 0; i < count; i++) {
                sum += rows[i].cost;
            }
            return sum;
        }

        int longestChain() {
            int longest = 0;
            for (int i = 0; i < count; i++) {
                longest = Math.max(longest, rows[i].chain);
            }
            return longest;
        }
    }

    /** PIECES in the order in which they were sold, a column for each thing that is known of them. */
    private static final class Pieces {
        final int[] paper = new int[PIECE_ROOM];
        final int[] day = new int[PIECE_ROOM];
        final int[] buy = new int[PIECE_ROOM];
        final int[] chain = new int[PIECE_ROOM];
        final int[] shares = new int[PIECE_ROOM];
        final long[] cost = new long[PIECE_ROOM];
        final long[] proceeds = new long[PIECE_ROOM];
        /** SHARES still to be REPLACED; with none the PIECE isn't OPEN. */
        final int[] left = new int[PIECE_ROOM];
        final long[] loss = new long[PIECE_ROOM];
        final long[] moved = new long[PIECE_ROOM];
        int count;

        void add(int itsPaper, int itsDay, Lot from, int price) {
            if (count >= PIECE_ROOM) {
                return;
            }
            long brought = (long) from.shares * price;
            boolean loses = brought < from.cost;
            paper[count] = itsPaper;
            day[count] = itsDay;
            buy[count] = from.buy;
            chain[count] = from.chain;
            shares[count] = from.shares;
            cost[count] = from.cost;
            proceeds[count] = brought;
            left[count] = loses ? from.shares : 0;
            loss[count] = loses ? from.cost - brought : 0;
            moved[count] = 0;
            count++;
        }

        long gainsFrom(int first, int behind) {
            long sum = 0;
            for (int k = first; k < behind && k < count; k++) {
                sum += proceeds[k] - cost[k] + moved[k];
            }
            return sum;
        }

        long movedFrom(int first, int behind) {
            long sum = 0;
            for (int k = first; k < behind && k < count; k++) {
                sum += moved[k];
            }
            return sum;
        }
    }

    /** What comes of TRADES that are BOOKED. */
    private static final class Book {
        final Lots[] holdings = new Lots[PAPERS];
        final Pieces sold = new Pieces();
        final int[] firstPiece = new int[BOOK_ROOM];
        final int[] pieceCount = new int[BOOK_ROOM];
        final int[] order = new int[TRADE_ROOM];
        final int[] place = new int[TRADE_ROOM];
        /** The OPEN PIECES alone, so that a buy needn't look at all that were ever sold. */
        private final int[] openRows = new int[LOT_ROOM];
        int openCount;
        long lostCost;
        private int window;

        Book() {
            for (int p = 0; p < PAPERS; p++) {
                holdings[p] = new Lots();
            }
        }

        /** Books TRADES up to a DAY anew: false, and the rest isn't BOOKED, if some sell is SHORT. */
        boolean bookAll(Trades trades, int days, int lastDay) {
            clearFor(days);
            putInOrder(trades);
            for (int i = 0; i < trades.count && i < TRADE_ROOM; i++) {
                int t = order[i];
                int p = trades.paper[t];
                int day = trades.day[t];
                if (day > lastDay) {
                    return true;
                }
                if (trades.sort[t] == BUY) {
                    bookBuy(t, p, day, trades.shares[t], trades.price[t]);
                } else if (trades.sort[t] == SPLIT) {
                    bookSplit(p, trades.shares[t], trades.price[t]);
                } else if (!bookSell(t, p, day, trades.shares[t], trades.price[t], trades.rule[t])) {
                    return false;
                }
            }
            return true;
        }

        private void clearFor(int days) {
            window = days;
            for (int p = 0; p < PAPERS; p++) {
                holdings[p].count = 0;
            }
            for (int t = 0; t < BOOK_ROOM; t++) {
                firstPiece[t] = 0;
                pieceCount[t] = 0;
            }
            sold.count = 0;
            openCount = 0;
            lostCost = 0;
        }

        /** By DAYS, those of a DAY by numbers. */
        private void putInOrder(Trades trades) {
            int rows = Math.min(trades.count, TRADE_ROOM);
            for (int t = 0; t < rows; t++) {
                int at = t;
                while (at > 0 && trades.day[order[at - 1]] > trades.day[t]) {
                    order[at] = order[at - 1];
                    at--;
                }
                order[at] = t;
            }
            for (int i = 0; i < rows; i++) {
                place[order[i]] = i;
            }
        }

        void bookBuy(int t, int p, int day, int shares, int price) {
            if (p < 0 || p >= PAPERS) {
                return;
            }
            Lots held = holdings[p];
            held.addBought(t, day, shares, price);
            for (int o = 0; o < openCount; o++) {
                int k = openRows[o];
                int last = held.count - 1;
                if (last < 0 || held.rows[last].washed) {
                    break;
                }
                if (sold.paper[k] == p && day - sold.day[k] <= window) {
                    replace(k, held, last);
                }
            }
            dropClosed();
        }

        /** False, and nothing is sold, if the LOTS have too few SHARES. */
        boolean bookSell(int t, int p, int day, int shares, int price, int rule) {
            if (t < 0 || t >= BOOK_ROOM || p < 0 || p >= PAPERS || holdings[p].allShares() < shares) {
                return false;
            }
            Lots held = holdings[p];
            int first = sold.count;
            int wanted = shares;
            for (int k = 0; k < LOT_ROOM && wanted > 0; k++) {
                int i = held.nextBy(rule);
                if (i < 0) {
                    break;
                }
                held.part(i, wanted);
                wanted -= held.rows[i].shares;
                sold.add(p, day, held.rows[i], price);
                held.remove(i);
            }
            firstPiece[t] = first;
            pieceCount[t] = sold.count - first;
            for (int k = first; k < sold.count; k++) {
                replaceByLotsLeft(k, held, day);
                noteIfOpen(k);
            }
            return true;
        }

        private void replaceByLotsLeft(int k, Lots held, int day) {
            for (int i = 0; i < held.count && i < LOT_ROOM && sold.left[k] > 0; i++) {
                if (!held.rows[i].washed && day - held.rows[i].day <= window) {
                    replace(k, held, i);
                }
            }
        }

        /** The i-th LOT REPLACES what it can of a PIECE. */
        private void replace(int k, Lots held, int i) {
            if (sold.left[k] <= 0) {
                return;
            }
            held.part(i, sold.left[k]);
            Lot own = held.rows[i];
            long moved = sold.loss[k] * own.shares / sold.left[k];
            own.cost += moved;
            own.washed = true;
            own.chain = Math.max(own.chain, sold.chain[k] + 1);
            sold.moved[k] += moved;
            sold.loss[k] -= moved;
            sold.left[k] -= own.shares;
        }

        private void noteIfOpen(int k) {
            if (sold.left[k] > 0 && openCount < LOT_ROOM) {
                openRows[openCount] = k;
                openCount++;
            }
        }

        private void dropClosed() {
            int stay = 0;
            for (int o = 0; o < openCount; o++) {
                if (sold.left[openRows[o]] > 0) {
                    openRows[stay] = openRows[o];
                    stay++;
                }
            }
            openCount = stay;
        }

        private void bookSplit(int p, int a, int b) {
            if (p < 0 || p >= PAPERS || b <= 0) {
                return;
            }
            Lots held = holdings[p];
            for (int i = held.count - 1; i >= 0; i--) {
                held.rows[i].shares = a * held.rows[i].shares / b;
                if (held.rows[i].shares == 0) {
                    lostCost += held.rows[i].cost;
                    held.remove(i);
                }
            }
            for (int o = 0; o < openCount; o++) {
                int k = openRows[o];
                if (sold.paper[k] == p) {
                    sold.left[k] = a * sold.left[k] / b;
                }
            }
            dropClosed();
        }

        long gainOf(int t) {
            return t < 0 || t >= BOOK_ROOM ? 0 : sold.gainsFrom(firstPiece[t], firstPiece[t] + pieceCount[t]);
        }

        long deferredOf(int t) {
            return t < 0 || t >= BOOK_ROOM ? 0 : sold.movedFrom(firstPiece[t], firstPiece[t] + pieceCount[t]);
        }

        long allGains() {
            return sold.gainsFrom(0, sold.count);
        }

        long allDeferred() {
            return sold.movedFrom(0, sold.count);
        }
    }

    /** The sets of unsure ones that fit, ascending. */
    private static final class Fits {
        final int[] sets = new int[FIT_ROOM];
        int count;
        boolean found;

        int inSome() {
            int bits = 0;
            for (int i = 0; i < count; i++) {
                bits |= sets[i];
            }
            return bits;
        }

        int inAll() {
            if (count == 0) {
                return 0;
            }
            int bits = sets[0];
            for (int i = 1; i < count; i++) {
                bits &= sets[i];
            }
            return bits;
        }

        /** How many are left at most when one unsure PRICE is told. */
        int leftAtMost(int unsure) {
            int with = 0;
            for (int i = 0; i < count; i++) {
                with += sets[i] >> unsure & 1;
            }
            return Math.max(with, count - with);
        }

        int bestToAsk(int unsureCount) {
            int best = NOTHING;
            for (int u = 0; u < unsureCount && count > 0; u++) {
                if (best < 0 || leftAtMost(u) < leftAtMost(best)) {
                    best = u;
                }
            }
            return best;
        }
    }

    /** The TRADES as they were ahead of each ACT that can be undone, the latest last. */
    private static final class History {
        private final Trades[] past = new Trades[ACT_ROOM];
        int kept;

        History() {
            for (int i = 0; i < ACT_ROOM; i++) {
                past[i] = new Trades(TRADE_ROOM);
            }
        }

        void keep(Trades trades) {
            if (kept >= ACT_ROOM) {
                Trades oldest = past[0];
                for (int i = 0; i + 1 < ACT_ROOM; i++) {
                    past[i] = past[i + 1];
                }
                past[ACT_ROOM - 1] = oldest;
                kept = ACT_ROOM - 1;
            }
            past[kept].copyFrom(trades);
            kept++;
        }

        void giveBack(Trades trades) {
            if (kept > 0) {
                kept--;
                trades.copyFrom(past[kept]);
            }
        }
    }
}
